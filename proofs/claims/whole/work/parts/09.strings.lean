abbrev Y_String_length : xMth := (⟨"java/lang/String", "length", "()I"⟩, prog_22_method_54_code, 1, some .int, [])
theorem y_String_length : xYc Y_String_length 0 := ⟨(lw_i1 (List.mem_of_getElem? (i := 46) rfl)), (lw_i1 (List.mem_of_getElem? (i := 3) rfl)), ⟨by decide, by decide⟩, by decide +kernel, by decide⟩
theorem im_String_length : Cond.instanceMethod Y_String_length.1 ∈ lw_gd := (lw_i1 (List.mem_of_getElem? (i := 44) rfl))
theorem se_String_length : Cond.selects Y_String_length.1.cls Y_String_length.1 Y_String_length.1 ∈ lw_gd := (lw_i1 (List.mem_of_getElem? (i := 45) rfl))
abbrev Y_String_charAt : xMth := (⟨"java/lang/String", "charAt", "(I)C"⟩, prog_22_method_56_code, 2, some .char, [])
theorem y_String_charAt : xYc Y_String_charAt 1 := ⟨(lw_i1 (List.mem_of_getElem? (i := 56) rfl)), (lw_i1 (List.mem_of_getElem? (i := 3) rfl)), ⟨by decide, by decide⟩, by decide +kernel, by decide⟩
theorem im_String_charAt : Cond.instanceMethod Y_String_charAt.1 ∈ lw_gd := (lw_i1 (List.mem_of_getElem? (i := 54) rfl))
theorem se_String_charAt : Cond.selects Y_String_charAt.1.cls Y_String_charAt.1 Y_String_charAt.1 ∈ lw_gd := (lw_i1 (List.mem_of_getElem? (i := 55) rfl))
abbrev Y_String_indexOf : xMth := (⟨"java/lang/String", "indexOf", "(I)I"⟩, prog_22_method_79_code, 2, some .int, [])
theorem y_String_indexOf : xYc Y_String_indexOf 1 := ⟨(lw_i3 (List.mem_of_getElem? (i := 53) rfl)), (lw_i1 (List.mem_of_getElem? (i := 3) rfl)), ⟨by decide, by decide⟩, by decide +kernel, by decide⟩
theorem im_String_indexOf : Cond.instanceMethod Y_String_indexOf.1 ∈ lw_gd := (lw_i3 (List.mem_of_getElem? (i := 51) rfl))
theorem se_String_indexOf : Cond.selects Y_String_indexOf.1.cls Y_String_indexOf.1 Y_String_indexOf.1 ∈ lw_gd := (lw_i3 (List.mem_of_getElem? (i := 52) rfl))
/-- the char at a place of a text; the place of a char in a text -/
def xch (i : Nat) (k : Int32) : Int32 := (xbyt.getD i []).getD k.toNatClampNeg 0
def xixF (c : Int32) : List Int32 → Nat → Int32
  | [], _ => -1
  | b :: l, k => if b = c then nI k else xixF c l (k + 1)
def xix (i : Nat) (c : Int32) : Int32 := xixF c (xbyt.getD i []) 0
def wp_String_length (Q : xO → xS → Prop) (σ : xS) (i : Nat) : Prop := Q (.inl (some (.int (nI (xlen.getD i 0))))) σ
def wp_String_charAt (Q : xO → xS → Prop) (σ : xS) (i : Nat) (k : Int32) : Prop := vp_in k (xlen.getD i 0) ∧ Q (.inl (some (.int (xch i k)))) σ
def wp_String_indexOf (Q : xO → xS → Prop) (σ : xS) (i : Nat) (c : Int32) : Prop := Q (.inl (some (.int (xix i c)))) σ
theorem s_String_length {Γ : xG} {d : Nat} {Q : xO → xS → Prop} {σ : xS} {i : Nat} (hi : i < 3) (h : wp_String_length Q σ i) : xM Γ Y_String_length (d + 2) [.ref (900 + i)] σ Q := by
  sorry
theorem s_String_charAt {Γ : xG} {d : Nat} {Q : xO → xS → Prop} {σ : xS} {i : Nat} {k : Int32} (hi : i < 3) (h : wp_String_charAt Q σ i k) : xM Γ Y_String_charAt (d + 4) [.ref (900 + i), .int k] σ Q := by
  sorry
theorem s_String_indexOf {Γ : xG} {d : Nat} {Q : xO → xS → Prop} {σ : xS} {i : Nat} {c : Int32} (hi : i < 3) (h : wp_String_indexOf Q σ i c) : xM Γ Y_String_indexOf (d + 5) [.ref (900 + i), .int c] σ Q := by
  sorry

