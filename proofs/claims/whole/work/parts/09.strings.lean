theorem fx_String_1053 : Cond.fieldLink "java/lang/String" 1053 "jdk/internal/util/Preconditions" "SIOOBE_FORMATTER" "Ljava/util/function/BiFunction;" ∈ lw_gd := (lw_i1 (List.mem_of_getElem? (i := 67) rfl))
theorem m_String_1059 : Cond.methodLink "java/lang/String" 1059 Y_Preconditions_checkIndex.1 ∈ lw_gd := (lw_i1 (List.mem_of_getElem? (i := 69) rfl))
/-- the same where the class is known to the machine, but not the method -/
theorem xM.ofF {Γ : xG} {Y : xMth} {d : Nat} {as : List Value} {σ : xS} {Q : xO → xS → Prop} (hy : plainFor Y.1 = true) (hlen : (lg_sl as).length ≤ Y.2.2.1) (body : xJ Γ Y d (xb σ) 0 (lv_args 0 as) [] σ Q) : xM Γ Y d as σ Q := by
  refine MetFree.of_bodySF (code := Y.2.1) (maxLocals := Y.2.2.1) (ret := Y.2.2.2.1) hy ?_ ?_
  · intro args s m h hn
    obtain ⟨meth, c, h1, h2, h3, h4, h5, h6, -, -⟩ := xCw_spec (atoms_spec (ws := xCw Y :: lw_gd) h _ List.mem_cons_self) hn
    exact ⟨meth, c, h1, h2, h3, h4, h5, h6⟩
  · intro p e s m args below meth c s₁ B hml hP _
    obtain ⟨rfl, hbd, hP⟩ := hP
    have hts0 := atoms_spec (ws := xCw Y :: lw_gd) B.pre
    obtain ⟨meth', c', h1, h2, h3, h4, h5, h6, h7, -⟩ := xCw_spec (hts0 _ List.mem_cons_self) B.named
    have X₀ := Stand.of_body B
    cases B.method.symm.trans h1
    cases X₀.code.symm.trans h2
    have E : xEnt Γ Y (xR d (xb σ)) p e s m (as.map (xV Γ)).toArray meth c := ⟨B.exec, B.bytes, B.returns, hml, findClass_of_methodNamed B.named, fun w hw => hts0 w (List.mem_cons_of_mem _ hw), B.notSynchronized, h7, hbd⟩
    have hl := lv_entry (as.map (xV Γ)) (n := Y.2.2.1) (by rw [lg_sl_map]; exact hlen)
    rw [lv_args_map] at hl
    have K := body p e s m (as.map (xV Γ)).toArray below meth c E s.heap [] _ hP va_S.rf hl (Nat.le_refl _)
    have hh0 : s₁.heap = s.heap := by rw [B.state]; rfl
    rw [Nat.sub_self, Nat.zero_mul, Nat.zero_mul] at K
    obtain ⟨t, a1, o, b1, b2, b3⟩ := K s₁ hh0 X₀
    refine ⟨t, o, ?_, b1, b2, b3⟩
    rw [lg_entry_eq]
    exact a1
/-! texts: rows -/
/-- the char at a place of a text -/
def xch (i : Nat) (k : Int32) : Int32 := (xbyt.getD i []).getD k.toNatClampNeg 0
section RX
variable {Γ : xG} {Y Y' : xMth} {d b0 pc : Nat} {lv : List (Nat × Value)} {st : List Value} {σ : xS} {Q Q' : xO → xS → Prop}
theorem xJ.nreturn {v : Int32} {ty : FieldType} (hd : decode Y.2.1 pc = .ok (.ireturn, 1)) (hr : Y.2.2.2.1 = some ty) (hn : narrow ty (.int v) = .int v) (hq : Q (.inl (some (.int v))) σ) : xJ Γ Y d b0 pc lv [.int v] σ Q :=
  fun p e s m args below meth c E H locs ls hP hS hl hb => xW_ret (W.zret (v := v) E.x E.b (E.r.trans hr) hn (fun t ht _ => ⟨rfl, ht⟩) hS.2.2 hd E.lk) hq hP hS hb
theorem xJ.getsC {idx : Nat} (hd : decode Y.2.1 pc = .ok (.getstatic idx, 3)) (hw : Cond.fieldLink Y.1.cls idx "java/lang/String" "COMPACT_STRINGS" "Z" ∈ lw_gd) (k : xJ Γ Y d b0 (pc + 3) lv (.int 1 :: st) σ Q) : xJ Γ Y d b0 pc lv st σ Q :=
  fun p e s m args below meth c E H locs ls hP hS hl hb => va_gets E.x E.b E.bd.2.2.2.1.2.1.1 hS E.own (E.ts _ hw) (fun _ z => z) hd (k p e s m args below meth c E H locs ls hP hS hl hb)
theorem xJ.getsF {idx : Nat} (hd : decode Y.2.1 pc = .ok (.getstatic idx, 3)) (hw : Cond.fieldLink Y.1.cls idx "jdk/internal/util/Preconditions" "SIOOBE_FORMATTER" "Ljava/util/function/BiFunction;" ∈ lw_gd) (k1 : xJ Γ Y d b0 (pc + 3) lv (.null :: st) σ Q) (k2 : xJ Γ Y d b0 (pc + 3) lv (.ref 930 :: st) σ Q) : xJ Γ Y d b0 pc lv st σ Q := by
  intro p e s m args below meth c E H locs ls hP hS hl hb
  rcases E.bd.2.2.2.1.2.1.2 with hz | hz
  · exact va_gets E.x E.b hz hS E.own (E.ts _ hw) (fun _ z => z) hd (k1 p e s m args below meth c E H locs ls hP hS hl hb)
  · exact va_gets E.x E.b hz hS E.own (E.ts _ hw) (fun _ z => z) hd (k2 p e s m args below meth c E H locs ls hP hS hl hb)
theorem xJ.getXc {i idx : Nat} (hi : i < 3) (hd : decode Y.2.1 pc = .ok (.getfield idx, 3)) (hw : Cond.fieldLink Y.1.cls idx "java/lang/String" "coder" "B" ∈ lw_gd) (k : xJ Γ Y d b0 (pc + 3) lv (.int 0 :: st) σ Q) : xJ Γ Y d b0 pc lv (.ref (900 + i) :: st) σ Q :=
  fun p e s m args below meth c E H locs ls hP hS hl hb => vk_getf E.x E.b (E.bd.2.2.2.1.2.2.1.1 i hi).2.1 hS E.own (E.ts _ hw) (fun _ z => z) hd (k p e s m args below meth c E H locs ls hP hS hl hb)
theorem xJ.getXv {i idx : Nat} (hi : i < 3) (hd : decode Y.2.1 pc = .ok (.getfield idx, 3)) (hw : Cond.fieldLink Y.1.cls idx "java/lang/String" "value" "[B" ∈ lw_gd) (k : xJ Γ Y d b0 (pc + 3) lv (.ref (910 + i) :: st) σ Q) : xJ Γ Y d b0 pc lv (.ref (900 + i) :: st) σ Q :=
  fun p e s m args below meth c E H locs ls hP hS hl hb => vk_getf E.x E.b (E.bd.2.2.2.1.2.2.1.1 i hi).2.2.1 hS E.own (E.ts _ hw) (fun _ z => z) hd (k p e s m args below meth c E H locs ls hP hS hl hb)
theorem xJ.alenX {i : Nat} (hi : i < 3) (hd : decode Y.2.1 pc = .ok (.arraylength, 1)) (k : xJ Γ Y d b0 (pc + 1) lv (.int (Int32.ofNat (xlen.getD i 0)) :: st) σ Q) : xJ Γ Y d b0 pc lv (.ref (910 + i) :: st) σ Q :=
  fun p e s m args below meth c E H locs ls hP hS hl hb => va_tlen E.x E.b (E.bd.2.2.2.1.2.2.1.1 i hi).2.2.2 hS rfl hd (k p e s m args below meth c E H locs ls hP hS hl hb)
theorem xJ.baloadX {i : Nat} {x : Int32} (hi : i < 3) (hd : decode Y.2.1 pc = .ok (.baload, 1)) (hin : vp_in x (xlen.getD i 0)) (k : xJ Γ Y d b0 (pc + 1) lv (.int (xch i x) :: st) σ Q) : xJ Γ Y d b0 pc lv (.int x :: .ref (910 + i) :: st) σ Q :=
  fun p e s m args below meth c E H locs ls hP hS hl hb => va_tb E.x E.b (E.bd.2.2.2.1.2.2.1.1 i hi).2.2.2 hS hin rfl hd (k p e s m args below meth c E H locs ls hP hS hl hb)
theorem xJ.aload_nN {n : Fin 4} (hd : decode Y.2.1 pc = .ok (.aload_n n, 1)) (hg : xg lv n = some .null) (k : xJ Γ Y d b0 (pc + 1) lv (.null :: st) σ Q) : xJ Γ Y d b0 pc lv st σ Q := fun p e s m args below meth c E H locs ls hP hS hl hb => lv_aload_nN E.x E.b hd rfl (xLv_at hl hg) (k p e s m args below meth c E H locs ls hP hS hl hb)
end RX
/-- an index that is in: nothing happens -/
def wp_String_checkIndex (Q : xO → xS → Prop) (σ : xS) (a0 a1 : Int32) : Prop := ¬ a0 < 0 ∧ a0 < a1 ∧ Q (.inl none) σ
theorem s_Preconditions_checkIndex {Γ : xG} {d : Nat} {Q : xO → xS → Prop} {σ : xS} {a0 a1 : Int32} (v : Value) (hv : v = .null ∨ v = .ref 930) (h0 : ¬ a0 < 0) (h1 : a0 < a1) (h : Q (.inl (some (.int a0))) σ) : xM Γ Y_Preconditions_checkIndex (d + 0) [.int a0, .int a1, v] σ Q := by
  rcases hv with rfl | rfl
  all_goals
    refine xM.of (by decide) (Nat.le_of_ble_eq_true rfl) ?_
    refine xJ.iload_n (o_Preconditions_checkIndex 0 rfl) rfl ?_
    refine xJ.if_lt (tgt := 9) (o_Preconditions_checkIndex 1 rfl) (by decide) (fun z => absurd z h0) (fun z => ?_)
    refine xJ.iload_n (o_Preconditions_checkIndex 2 rfl) rfl ?_
    refine xJ.iload_n (o_Preconditions_checkIndex 3 rfl) rfl ?_
    refine xJ.icmp_lt (tgt := 16) (o_Preconditions_checkIndex 4 rfl) (by decide) (fun z => ?_) (fun z => absurd h1 z)
    refine xJ.iload_n (o_Preconditions_checkIndex 10 rfl) rfl ?_
    exact xJ.ireturn (o_Preconditions_checkIndex 11 rfl) rfl h
theorem s_String_checkIndex {Γ : xG} {d : Nat} {Q : xO → xS → Prop} {σ : xS} {a0 a1 : Int32} (h : wp_String_checkIndex Q σ a0 a1) : xM Γ Y_String_checkIndex (d + 1) [.int a0, .int a1] σ Q := by
  refine xM.of (by decide) (Nat.le_of_ble_eq_true rfl) ?_
  refine xJ.iload_n (o_String_checkIndex 0 rfl) rfl ?_
  refine xJ.iload_n (o_String_checkIndex 1 rfl) rfl ?_
  refine xJ.getsF (o_String_checkIndex 2 rfl) fx_String_1053 ?_ ?_
  · refine xJ.callS (Y' := Y_Preconditions_checkIndex) (o_String_checkIndex 3 rfl) m_String_1059 y_Preconditions_checkIndex st_Preconditions_checkIndex (s_Preconditions_checkIndex (Q := xqi (fun _ u => Q (.inl none) u) (fun n u => Q (.inr n) u)) .null (Or.inl rfl) h.1 h.2.1 h.2.2) rfl rfl (Nat.le_of_ble_eq_true rfl) (fun _ hx => by cases hx) (fun v u q => ?_) (fun n u q => q)
    obtain ⟨r, rfl, h⟩ := xqi_get q
    refine xJ.pop (o_String_checkIndex 4 rfl) rfl ?_
    exact xJ.return_ (o_String_checkIndex 5 rfl) rfl h
  · refine xJ.callS (Y' := Y_Preconditions_checkIndex) (o_String_checkIndex 3 rfl) m_String_1059 y_Preconditions_checkIndex st_Preconditions_checkIndex (s_Preconditions_checkIndex (Q := xqi (fun _ u => Q (.inl none) u) (fun n u => Q (.inr n) u)) (.ref 930) (Or.inr rfl) h.1 h.2.1 h.2.2) rfl rfl (Nat.le_of_ble_eq_true rfl) (fun _ hx => by cases hx) (fun v u q => ?_) (fun n u q => q)
    obtain ⟨r, rfl, h⟩ := xqi_get q
    refine xJ.pop (o_String_checkIndex 4 rfl) rfl ?_
    exact xJ.return_ (o_String_checkIndex 5 rfl) rfl h
