def wp_String_coder_900 (Q : xO → xS → Prop) (σ : xS)  : Prop :=
  (((1 : Int32) = 0 → (narrow .byte (.int 1) = .int 1 ∧ Q (.inl (some (.int 1))) σ)) ∧ (¬ (1 : Int32) = 0 → (narrow .byte (.int 0) = .int 0 ∧ Q (.inl (some (.int 0))) σ)))
set_option maxRecDepth 20000 in
theorem s_String_coder_900 {Γ : xG} {d : Nat} {Q : xO → xS → Prop} {σ : xS}  (h : wp_String_coder_900 Q σ ) : xM Γ Y_String_coder (d + 0) [.ref 900] σ Q := by
  refine xM.ofF (by decide +kernel) (Nat.le_of_ble_eq_true rfl) ?_
  refine xJ.getsC (o_String_coder 0 rfl) fx_String_38 ?_
  refine xJ.if_eq (tgt := 13) (o_String_coder 1 rfl) (by decide) (fun z => ?_) (fun z => ?_)
  · replace h := h.1 z
    refine xJ.iconst (v := 1) (o_String_coder 5 rfl) (by decide) ?_
    exact xJ.nreturn (o_String_coder 6 rfl) rfl h.1 h.2
  · replace h := h.2 z
    refine xJ.aload_n (o_String_coder 2 rfl) rfl ?_
    refine xJ.getXc (i := 0) (by decide) (o_String_coder 3 rfl) fx_String_15 ?_
    refine xJ.goto (tgt := 14) (o_String_coder 4 rfl) (by decide) ?_
    exact xJ.nreturn (o_String_coder 6 rfl) rfl h.1 h.2
def wp_String_length_900 (Q : xO → xS → Prop) (σ : xS)  : Prop :=
  wp_String_coder_900 (xqi (fun r2 u1 => Q (.inl (some (.int (jishr (Int32.ofNat 295) r2)))) u1) (fun n u => Q (.inr n) u)) σ 
set_option maxRecDepth 20000 in
theorem s_String_length_900 {Γ : xG} {d : Nat} {Q : xO → xS → Prop} {σ : xS}  (h : wp_String_length_900 Q σ ) : xM Γ Y_String_length (d + 1) [.ref 900] σ Q := by
  refine xM.ofF (by decide +kernel) (Nat.le_of_ble_eq_true rfl) ?_
  refine xJ.aload_n (o_String_length 0 rfl) rfl ?_
  refine xJ.getXv (i := 0) (by decide) (o_String_length 1 rfl) fx_String_9 ?_
  refine xJ.alenX (i := 0) (by decide) (o_String_length 2 rfl) ?_
  refine xJ.aload_n (o_String_length 3 rfl) rfl ?_
  refine xJ.callX (Y' := Y_String_coder) (o_String_length 4 rfl) m_String_335 y_String_coder im_String_coder se_String_coder rfl ⟨by decide, by decide⟩ (s_String_coder_900 h) rfl rfl (Nat.le_of_ble_eq_true rfl) (fun _ hx => by cases hx) (fun v u q => ?_) (fun n u q => q)
  obtain ⟨r, rfl, h⟩ := xqi_get q
  refine xJ.ishr (o_String_length 5 rfl) ?_
  exact xJ.ireturn (o_String_length 6 rfl) rfl h
def wp_String_coder_901 (Q : xO → xS → Prop) (σ : xS)  : Prop :=
  (((1 : Int32) = 0 → (narrow .byte (.int 1) = .int 1 ∧ Q (.inl (some (.int 1))) σ)) ∧ (¬ (1 : Int32) = 0 → (narrow .byte (.int 0) = .int 0 ∧ Q (.inl (some (.int 0))) σ)))
set_option maxRecDepth 20000 in
theorem s_String_coder_901 {Γ : xG} {d : Nat} {Q : xO → xS → Prop} {σ : xS}  (h : wp_String_coder_901 Q σ ) : xM Γ Y_String_coder (d + 0) [.ref 901] σ Q := by
  refine xM.ofF (by decide +kernel) (Nat.le_of_ble_eq_true rfl) ?_
  refine xJ.getsC (o_String_coder 0 rfl) fx_String_38 ?_
  refine xJ.if_eq (tgt := 13) (o_String_coder 1 rfl) (by decide) (fun z => ?_) (fun z => ?_)
  · replace h := h.1 z
    refine xJ.iconst (v := 1) (o_String_coder 5 rfl) (by decide) ?_
    exact xJ.nreturn (o_String_coder 6 rfl) rfl h.1 h.2
  · replace h := h.2 z
    refine xJ.aload_n (o_String_coder 2 rfl) rfl ?_
    refine xJ.getXc (i := 1) (by decide) (o_String_coder 3 rfl) fx_String_15 ?_
    refine xJ.goto (tgt := 14) (o_String_coder 4 rfl) (by decide) ?_
    exact xJ.nreturn (o_String_coder 6 rfl) rfl h.1 h.2
def wp_String_length_901 (Q : xO → xS → Prop) (σ : xS)  : Prop :=
  wp_String_coder_901 (xqi (fun r2 u1 => Q (.inl (some (.int (jishr (Int32.ofNat 18) r2)))) u1) (fun n u => Q (.inr n) u)) σ 
set_option maxRecDepth 20000 in
theorem s_String_length_901 {Γ : xG} {d : Nat} {Q : xO → xS → Prop} {σ : xS}  (h : wp_String_length_901 Q σ ) : xM Γ Y_String_length (d + 1) [.ref 901] σ Q := by
  refine xM.ofF (by decide +kernel) (Nat.le_of_ble_eq_true rfl) ?_
  refine xJ.aload_n (o_String_length 0 rfl) rfl ?_
  refine xJ.getXv (i := 1) (by decide) (o_String_length 1 rfl) fx_String_9 ?_
  refine xJ.alenX (i := 1) (by decide) (o_String_length 2 rfl) ?_
  refine xJ.aload_n (o_String_length 3 rfl) rfl ?_
  refine xJ.callX (Y' := Y_String_coder) (o_String_length 4 rfl) m_String_335 y_String_coder im_String_coder se_String_coder rfl ⟨by decide, by decide⟩ (s_String_coder_901 h) rfl rfl (Nat.le_of_ble_eq_true rfl) (fun _ hx => by cases hx) (fun v u q => ?_) (fun n u q => q)
  obtain ⟨r, rfl, h⟩ := xqi_get q
  refine xJ.ishr (o_String_length 5 rfl) ?_
  exact xJ.ireturn (o_String_length 6 rfl) rfl h
def wp_String_coder_902 (Q : xO → xS → Prop) (σ : xS)  : Prop :=
  (((1 : Int32) = 0 → (narrow .byte (.int 1) = .int 1 ∧ Q (.inl (some (.int 1))) σ)) ∧ (¬ (1 : Int32) = 0 → (narrow .byte (.int 0) = .int 0 ∧ Q (.inl (some (.int 0))) σ)))
set_option maxRecDepth 20000 in
theorem s_String_coder_902 {Γ : xG} {d : Nat} {Q : xO → xS → Prop} {σ : xS}  (h : wp_String_coder_902 Q σ ) : xM Γ Y_String_coder (d + 0) [.ref 902] σ Q := by
  refine xM.ofF (by decide +kernel) (Nat.le_of_ble_eq_true rfl) ?_
  refine xJ.getsC (o_String_coder 0 rfl) fx_String_38 ?_
  refine xJ.if_eq (tgt := 13) (o_String_coder 1 rfl) (by decide) (fun z => ?_) (fun z => ?_)
  · replace h := h.1 z
    refine xJ.iconst (v := 1) (o_String_coder 5 rfl) (by decide) ?_
    exact xJ.nreturn (o_String_coder 6 rfl) rfl h.1 h.2
  · replace h := h.2 z
    refine xJ.aload_n (o_String_coder 2 rfl) rfl ?_
    refine xJ.getXc (i := 2) (by decide) (o_String_coder 3 rfl) fx_String_15 ?_
    refine xJ.goto (tgt := 14) (o_String_coder 4 rfl) (by decide) ?_
    exact xJ.nreturn (o_String_coder 6 rfl) rfl h.1 h.2
def wp_String_length_902 (Q : xO → xS → Prop) (σ : xS)  : Prop :=
  wp_String_coder_902 (xqi (fun r2 u1 => Q (.inl (some (.int (jishr (Int32.ofNat 296) r2)))) u1) (fun n u => Q (.inr n) u)) σ 
set_option maxRecDepth 20000 in
theorem s_String_length_902 {Γ : xG} {d : Nat} {Q : xO → xS → Prop} {σ : xS}  (h : wp_String_length_902 Q σ ) : xM Γ Y_String_length (d + 1) [.ref 902] σ Q := by
  refine xM.ofF (by decide +kernel) (Nat.le_of_ble_eq_true rfl) ?_
  refine xJ.aload_n (o_String_length 0 rfl) rfl ?_
  refine xJ.getXv (i := 2) (by decide) (o_String_length 1 rfl) fx_String_9 ?_
  refine xJ.alenX (i := 2) (by decide) (o_String_length 2 rfl) ?_
  refine xJ.aload_n (o_String_length 3 rfl) rfl ?_
  refine xJ.callX (Y' := Y_String_coder) (o_String_length 4 rfl) m_String_335 y_String_coder im_String_coder se_String_coder rfl ⟨by decide, by decide⟩ (s_String_coder_902 h) rfl rfl (Nat.le_of_ble_eq_true rfl) (fun _ hx => by cases hx) (fun v u q => ?_) (fun n u q => q)
  obtain ⟨r, rfl, h⟩ := xqi_get q
  refine xJ.ishr (o_String_length 5 rfl) ?_
  exact xJ.ireturn (o_String_length 6 rfl) rfl h
def wp_StringLatin1_charAt_910 (Q : xO → xS → Prop) (σ : xS) (a1 : Int32) : Prop :=
  wp_String_checkIndex (xqv (fun u1 => (vp_in a1 295 ∧ (narrow .char (.int ((((xch 0 a1) &&& 255).toUInt32 % 65536).toInt32)) = .int ((((xch 0 a1) &&& 255).toUInt32 % 65536).toInt32) ∧ Q (.inl (some (.int ((((xch 0 a1) &&& 255).toUInt32 % 65536).toInt32)))) u1))) (fun n u => Q (.inr n) u)) σ a1 (Int32.ofNat 295)
set_option maxRecDepth 20000 in
theorem s_StringLatin1_charAt_910 {Γ : xG} {d : Nat} {Q : xO → xS → Prop} {σ : xS} {a1 : Int32} (h : wp_StringLatin1_charAt_910 Q σ a1) : xM Γ Y_StringLatin1_charAt (d + 2) [.ref 910, .int a1] σ Q := by
  refine xM.ofF (by decide +kernel) (Nat.le_of_ble_eq_true rfl) ?_
  refine xJ.iload_n (o_StringLatin1_charAt 0 rfl) rfl ?_
  refine xJ.aload_n (o_StringLatin1_charAt 1 rfl) rfl ?_
  refine xJ.alenX (i := 0) (by decide) (o_StringLatin1_charAt 2 rfl) ?_
  refine xJ.callS (Y' := Y_String_checkIndex) (o_StringLatin1_charAt 3 rfl) m_StringLatin1_9 y_String_checkIndex st_String_checkIndex (s_String_checkIndex h) rfl rfl (Nat.le_of_ble_eq_true rfl) (fun _ hx => by cases hx) (fun v u q => ?_) (fun n u q => q)
  obtain ⟨rfl, h⟩ := xqv_get q
  refine xJ.aload_n (o_StringLatin1_charAt 4 rfl) rfl ?_
  refine xJ.iload_n (o_StringLatin1_charAt 5 rfl) rfl ?_
  refine xJ.baloadX (i := 0) (by decide) (o_StringLatin1_charAt 6 rfl) h.1 ?_
  replace h := h.2
  refine xJ.sipush (v := 255) (o_StringLatin1_charAt 7 rfl) (by decide) ?_
  refine xJ.iand (o_StringLatin1_charAt 8 rfl) ?_
  refine xJ.i2c (o_StringLatin1_charAt 9 rfl) rfl ?_
  exact xJ.nreturn (o_StringLatin1_charAt 10 rfl) rfl h.1 h.2
def wp_String_isLatin1_900 (Q : xO → xS → Prop) (σ : xS)  : Prop :=
  (((1 : Int32) = 0 → Q (.inl (some (.int 0))) σ) ∧ (¬ (1 : Int32) = 0 → ((¬ (0 : Int32) = 0 → Q (.inl (some (.int 0))) σ) ∧ ((0 : Int32) = 0 → Q (.inl (some (.int 1))) σ))))
set_option maxRecDepth 20000 in
theorem s_String_isLatin1_900 {Γ : xG} {d : Nat} {Q : xO → xS → Prop} {σ : xS}  (h : wp_String_isLatin1_900 Q σ ) : xM Γ Y_String_isLatin1 (d + 0) [.ref 900] σ Q := by
  refine xM.ofF (by decide +kernel) (Nat.le_of_ble_eq_true rfl) ?_
  refine xJ.getsC (o_String_isLatin1 0 rfl) fx_String_38 ?_
  refine xJ.if_eq (tgt := 17) (o_String_isLatin1 1 rfl) (by decide) (fun z => ?_) (fun z => ?_)
  · replace h := h.1 z
    refine xJ.iconst (v := 0) (o_String_isLatin1 7 rfl) (by decide) ?_
    exact xJ.zreturn (o_String_isLatin1 8 rfl) rfl (Or.inl rfl) h
  · replace h := h.2 z
    refine xJ.aload_n (o_String_isLatin1 2 rfl) rfl ?_
    refine xJ.getXc (i := 0) (by decide) (o_String_isLatin1 3 rfl) fx_String_15 ?_
    refine xJ.if_ne (tgt := 17) (o_String_isLatin1 4 rfl) (by decide) (fun z => ?_) (fun z => ?_)
    · replace h := h.1 z
      refine xJ.iconst (v := 0) (o_String_isLatin1 7 rfl) (by decide) ?_
      exact xJ.zreturn (o_String_isLatin1 8 rfl) rfl (Or.inl rfl) h
    · replace h := h.2 z
      refine xJ.iconst (v := 1) (o_String_isLatin1 5 rfl) (by decide) ?_
      refine xJ.goto (tgt := 18) (o_String_isLatin1 6 rfl) (by decide) ?_
      exact xJ.zreturn (o_String_isLatin1 8 rfl) rfl (Or.inr rfl) h
def wp_String_charAt_900 (Q : xO → xS → Prop) (σ : xS) (a1 : Int32) : Prop :=
  wp_String_isLatin1_900 (xqi (fun r2 u1 => ((r2 = 0 → False) ∧ (¬ r2 = 0 → wp_StringLatin1_charAt_910 (xqi (fun r6 u5 => (narrow .char (.int r6) = .int r6 ∧ Q (.inl (some (.int r6))) u5)) (fun n u => Q (.inr n) u)) u1 a1))) (fun n u => Q (.inr n) u)) σ 
set_option maxRecDepth 20000 in
theorem s_String_charAt_900 {Γ : xG} {d : Nat} {Q : xO → xS → Prop} {σ : xS} {a1 : Int32} (h : wp_String_charAt_900 Q σ a1) : xM Γ Y_String_charAt (d + 3) [.ref 900, .int a1] σ Q := by
  refine xM.ofF (by decide +kernel) (Nat.le_of_ble_eq_true rfl) ?_
  refine xJ.aload_n (o_String_charAt 0 rfl) rfl ?_
  refine xJ.callX (Y' := Y_String_isLatin1) (o_String_charAt 1 rfl) m_String_492 y_String_isLatin1 im_String_isLatin1 se_String_isLatin1 rfl ⟨by decide, by decide⟩ (s_String_isLatin1_900 h) rfl rfl (Nat.le_of_ble_eq_true rfl) (fun _ hx => by cases hx) (fun v u q => ?_) (fun n u q => q)
  obtain ⟨r, rfl, h⟩ := xqi_get q
  refine xJ.if_eq (tgt := 16) (o_String_charAt 2 rfl) (by decide) (fun z => ?_) (fun z => ?_)
  · replace h := h.1 z
    refine xJ.aload_n (o_String_charAt 8 rfl) rfl ?_
    refine xJ.getXv (i := 0) (by decide) (o_String_charAt 9 rfl) fx_String_9 ?_
    refine xJ.iload_n (o_String_charAt 10 rfl) rfl ?_
    exact h.elim
  · replace h := h.2 z
    refine xJ.aload_n (o_String_charAt 3 rfl) rfl ?_
    refine xJ.getXv (i := 0) (by decide) (o_String_charAt 4 rfl) fx_String_9 ?_
    refine xJ.iload_n (o_String_charAt 5 rfl) rfl ?_
    refine xJ.callS (Y' := Y_StringLatin1_charAt) (o_String_charAt 6 rfl) m_String_495 y_StringLatin1_charAt st_StringLatin1_charAt (s_StringLatin1_charAt_910 h) rfl rfl (Nat.le_of_ble_eq_true rfl) (fun _ hx => by cases hx) (fun v u q => ?_) (fun n u q => q)
    obtain ⟨r, rfl, h⟩ := xqi_get q
    exact xJ.nreturn (o_String_charAt 7 rfl) rfl h.1 h.2
def wp_StringLatin1_charAt_911 (Q : xO → xS → Prop) (σ : xS) (a1 : Int32) : Prop :=
  wp_String_checkIndex (xqv (fun u1 => (vp_in a1 18 ∧ (narrow .char (.int ((((xch 1 a1) &&& 255).toUInt32 % 65536).toInt32)) = .int ((((xch 1 a1) &&& 255).toUInt32 % 65536).toInt32) ∧ Q (.inl (some (.int ((((xch 1 a1) &&& 255).toUInt32 % 65536).toInt32)))) u1))) (fun n u => Q (.inr n) u)) σ a1 (Int32.ofNat 18)
set_option maxRecDepth 20000 in
theorem s_StringLatin1_charAt_911 {Γ : xG} {d : Nat} {Q : xO → xS → Prop} {σ : xS} {a1 : Int32} (h : wp_StringLatin1_charAt_911 Q σ a1) : xM Γ Y_StringLatin1_charAt (d + 2) [.ref 911, .int a1] σ Q := by
  refine xM.ofF (by decide +kernel) (Nat.le_of_ble_eq_true rfl) ?_
  refine xJ.iload_n (o_StringLatin1_charAt 0 rfl) rfl ?_
  refine xJ.aload_n (o_StringLatin1_charAt 1 rfl) rfl ?_
  refine xJ.alenX (i := 1) (by decide) (o_StringLatin1_charAt 2 rfl) ?_
  refine xJ.callS (Y' := Y_String_checkIndex) (o_StringLatin1_charAt 3 rfl) m_StringLatin1_9 y_String_checkIndex st_String_checkIndex (s_String_checkIndex h) rfl rfl (Nat.le_of_ble_eq_true rfl) (fun _ hx => by cases hx) (fun v u q => ?_) (fun n u q => q)
  obtain ⟨rfl, h⟩ := xqv_get q
  refine xJ.aload_n (o_StringLatin1_charAt 4 rfl) rfl ?_
  refine xJ.iload_n (o_StringLatin1_charAt 5 rfl) rfl ?_
  refine xJ.baloadX (i := 1) (by decide) (o_StringLatin1_charAt 6 rfl) h.1 ?_
  replace h := h.2
  refine xJ.sipush (v := 255) (o_StringLatin1_charAt 7 rfl) (by decide) ?_
  refine xJ.iand (o_StringLatin1_charAt 8 rfl) ?_
  refine xJ.i2c (o_StringLatin1_charAt 9 rfl) rfl ?_
  exact xJ.nreturn (o_StringLatin1_charAt 10 rfl) rfl h.1 h.2
def wp_String_isLatin1_901 (Q : xO → xS → Prop) (σ : xS)  : Prop :=
  (((1 : Int32) = 0 → Q (.inl (some (.int 0))) σ) ∧ (¬ (1 : Int32) = 0 → ((¬ (0 : Int32) = 0 → Q (.inl (some (.int 0))) σ) ∧ ((0 : Int32) = 0 → Q (.inl (some (.int 1))) σ))))
set_option maxRecDepth 20000 in
theorem s_String_isLatin1_901 {Γ : xG} {d : Nat} {Q : xO → xS → Prop} {σ : xS}  (h : wp_String_isLatin1_901 Q σ ) : xM Γ Y_String_isLatin1 (d + 0) [.ref 901] σ Q := by
  refine xM.ofF (by decide +kernel) (Nat.le_of_ble_eq_true rfl) ?_
  refine xJ.getsC (o_String_isLatin1 0 rfl) fx_String_38 ?_
  refine xJ.if_eq (tgt := 17) (o_String_isLatin1 1 rfl) (by decide) (fun z => ?_) (fun z => ?_)
  · replace h := h.1 z
    refine xJ.iconst (v := 0) (o_String_isLatin1 7 rfl) (by decide) ?_
    exact xJ.zreturn (o_String_isLatin1 8 rfl) rfl (Or.inl rfl) h
  · replace h := h.2 z
    refine xJ.aload_n (o_String_isLatin1 2 rfl) rfl ?_
    refine xJ.getXc (i := 1) (by decide) (o_String_isLatin1 3 rfl) fx_String_15 ?_
    refine xJ.if_ne (tgt := 17) (o_String_isLatin1 4 rfl) (by decide) (fun z => ?_) (fun z => ?_)
    · replace h := h.1 z
      refine xJ.iconst (v := 0) (o_String_isLatin1 7 rfl) (by decide) ?_
      exact xJ.zreturn (o_String_isLatin1 8 rfl) rfl (Or.inl rfl) h
    · replace h := h.2 z
      refine xJ.iconst (v := 1) (o_String_isLatin1 5 rfl) (by decide) ?_
      refine xJ.goto (tgt := 18) (o_String_isLatin1 6 rfl) (by decide) ?_
      exact xJ.zreturn (o_String_isLatin1 8 rfl) rfl (Or.inr rfl) h
def wp_String_charAt_901 (Q : xO → xS → Prop) (σ : xS) (a1 : Int32) : Prop :=
  wp_String_isLatin1_901 (xqi (fun r2 u1 => ((r2 = 0 → False) ∧ (¬ r2 = 0 → wp_StringLatin1_charAt_911 (xqi (fun r6 u5 => (narrow .char (.int r6) = .int r6 ∧ Q (.inl (some (.int r6))) u5)) (fun n u => Q (.inr n) u)) u1 a1))) (fun n u => Q (.inr n) u)) σ 
set_option maxRecDepth 20000 in
theorem s_String_charAt_901 {Γ : xG} {d : Nat} {Q : xO → xS → Prop} {σ : xS} {a1 : Int32} (h : wp_String_charAt_901 Q σ a1) : xM Γ Y_String_charAt (d + 3) [.ref 901, .int a1] σ Q := by
  refine xM.ofF (by decide +kernel) (Nat.le_of_ble_eq_true rfl) ?_
  refine xJ.aload_n (o_String_charAt 0 rfl) rfl ?_
  refine xJ.callX (Y' := Y_String_isLatin1) (o_String_charAt 1 rfl) m_String_492 y_String_isLatin1 im_String_isLatin1 se_String_isLatin1 rfl ⟨by decide, by decide⟩ (s_String_isLatin1_901 h) rfl rfl (Nat.le_of_ble_eq_true rfl) (fun _ hx => by cases hx) (fun v u q => ?_) (fun n u q => q)
  obtain ⟨r, rfl, h⟩ := xqi_get q
  refine xJ.if_eq (tgt := 16) (o_String_charAt 2 rfl) (by decide) (fun z => ?_) (fun z => ?_)
  · replace h := h.1 z
    refine xJ.aload_n (o_String_charAt 8 rfl) rfl ?_
    refine xJ.getXv (i := 1) (by decide) (o_String_charAt 9 rfl) fx_String_9 ?_
    refine xJ.iload_n (o_String_charAt 10 rfl) rfl ?_
    exact h.elim
  · replace h := h.2 z
    refine xJ.aload_n (o_String_charAt 3 rfl) rfl ?_
    refine xJ.getXv (i := 1) (by decide) (o_String_charAt 4 rfl) fx_String_9 ?_
    refine xJ.iload_n (o_String_charAt 5 rfl) rfl ?_
    refine xJ.callS (Y' := Y_StringLatin1_charAt) (o_String_charAt 6 rfl) m_String_495 y_StringLatin1_charAt st_StringLatin1_charAt (s_StringLatin1_charAt_911 h) rfl rfl (Nat.le_of_ble_eq_true rfl) (fun _ hx => by cases hx) (fun v u q => ?_) (fun n u q => q)
    obtain ⟨r, rfl, h⟩ := xqi_get q
    exact xJ.nreturn (o_String_charAt 7 rfl) rfl h.1 h.2
def wp_StringLatin1_charAt_912 (Q : xO → xS → Prop) (σ : xS) (a1 : Int32) : Prop :=
  wp_String_checkIndex (xqv (fun u1 => (vp_in a1 296 ∧ (narrow .char (.int ((((xch 2 a1) &&& 255).toUInt32 % 65536).toInt32)) = .int ((((xch 2 a1) &&& 255).toUInt32 % 65536).toInt32) ∧ Q (.inl (some (.int ((((xch 2 a1) &&& 255).toUInt32 % 65536).toInt32)))) u1))) (fun n u => Q (.inr n) u)) σ a1 (Int32.ofNat 296)
set_option maxRecDepth 20000 in
theorem s_StringLatin1_charAt_912 {Γ : xG} {d : Nat} {Q : xO → xS → Prop} {σ : xS} {a1 : Int32} (h : wp_StringLatin1_charAt_912 Q σ a1) : xM Γ Y_StringLatin1_charAt (d + 2) [.ref 912, .int a1] σ Q := by
  refine xM.ofF (by decide +kernel) (Nat.le_of_ble_eq_true rfl) ?_
  refine xJ.iload_n (o_StringLatin1_charAt 0 rfl) rfl ?_
  refine xJ.aload_n (o_StringLatin1_charAt 1 rfl) rfl ?_
  refine xJ.alenX (i := 2) (by decide) (o_StringLatin1_charAt 2 rfl) ?_
  refine xJ.callS (Y' := Y_String_checkIndex) (o_StringLatin1_charAt 3 rfl) m_StringLatin1_9 y_String_checkIndex st_String_checkIndex (s_String_checkIndex h) rfl rfl (Nat.le_of_ble_eq_true rfl) (fun _ hx => by cases hx) (fun v u q => ?_) (fun n u q => q)
  obtain ⟨rfl, h⟩ := xqv_get q
  refine xJ.aload_n (o_StringLatin1_charAt 4 rfl) rfl ?_
  refine xJ.iload_n (o_StringLatin1_charAt 5 rfl) rfl ?_
  refine xJ.baloadX (i := 2) (by decide) (o_StringLatin1_charAt 6 rfl) h.1 ?_
  replace h := h.2
  refine xJ.sipush (v := 255) (o_StringLatin1_charAt 7 rfl) (by decide) ?_
  refine xJ.iand (o_StringLatin1_charAt 8 rfl) ?_
  refine xJ.i2c (o_StringLatin1_charAt 9 rfl) rfl ?_
  exact xJ.nreturn (o_StringLatin1_charAt 10 rfl) rfl h.1 h.2
def wp_String_isLatin1_902 (Q : xO → xS → Prop) (σ : xS)  : Prop :=
  (((1 : Int32) = 0 → Q (.inl (some (.int 0))) σ) ∧ (¬ (1 : Int32) = 0 → ((¬ (0 : Int32) = 0 → Q (.inl (some (.int 0))) σ) ∧ ((0 : Int32) = 0 → Q (.inl (some (.int 1))) σ))))
set_option maxRecDepth 20000 in
theorem s_String_isLatin1_902 {Γ : xG} {d : Nat} {Q : xO → xS → Prop} {σ : xS}  (h : wp_String_isLatin1_902 Q σ ) : xM Γ Y_String_isLatin1 (d + 0) [.ref 902] σ Q := by
  refine xM.ofF (by decide +kernel) (Nat.le_of_ble_eq_true rfl) ?_
  refine xJ.getsC (o_String_isLatin1 0 rfl) fx_String_38 ?_
  refine xJ.if_eq (tgt := 17) (o_String_isLatin1 1 rfl) (by decide) (fun z => ?_) (fun z => ?_)
  · replace h := h.1 z
    refine xJ.iconst (v := 0) (o_String_isLatin1 7 rfl) (by decide) ?_
    exact xJ.zreturn (o_String_isLatin1 8 rfl) rfl (Or.inl rfl) h
  · replace h := h.2 z
    refine xJ.aload_n (o_String_isLatin1 2 rfl) rfl ?_
    refine xJ.getXc (i := 2) (by decide) (o_String_isLatin1 3 rfl) fx_String_15 ?_
    refine xJ.if_ne (tgt := 17) (o_String_isLatin1 4 rfl) (by decide) (fun z => ?_) (fun z => ?_)
    · replace h := h.1 z
      refine xJ.iconst (v := 0) (o_String_isLatin1 7 rfl) (by decide) ?_
      exact xJ.zreturn (o_String_isLatin1 8 rfl) rfl (Or.inl rfl) h
    · replace h := h.2 z
      refine xJ.iconst (v := 1) (o_String_isLatin1 5 rfl) (by decide) ?_
      refine xJ.goto (tgt := 18) (o_String_isLatin1 6 rfl) (by decide) ?_
      exact xJ.zreturn (o_String_isLatin1 8 rfl) rfl (Or.inr rfl) h
def wp_String_charAt_902 (Q : xO → xS → Prop) (σ : xS) (a1 : Int32) : Prop :=
  wp_String_isLatin1_902 (xqi (fun r2 u1 => ((r2 = 0 → False) ∧ (¬ r2 = 0 → wp_StringLatin1_charAt_912 (xqi (fun r6 u5 => (narrow .char (.int r6) = .int r6 ∧ Q (.inl (some (.int r6))) u5)) (fun n u => Q (.inr n) u)) u1 a1))) (fun n u => Q (.inr n) u)) σ 
set_option maxRecDepth 20000 in
theorem s_String_charAt_902 {Γ : xG} {d : Nat} {Q : xO → xS → Prop} {σ : xS} {a1 : Int32} (h : wp_String_charAt_902 Q σ a1) : xM Γ Y_String_charAt (d + 3) [.ref 902, .int a1] σ Q := by
  refine xM.ofF (by decide +kernel) (Nat.le_of_ble_eq_true rfl) ?_
  refine xJ.aload_n (o_String_charAt 0 rfl) rfl ?_
  refine xJ.callX (Y' := Y_String_isLatin1) (o_String_charAt 1 rfl) m_String_492 y_String_isLatin1 im_String_isLatin1 se_String_isLatin1 rfl ⟨by decide, by decide⟩ (s_String_isLatin1_902 h) rfl rfl (Nat.le_of_ble_eq_true rfl) (fun _ hx => by cases hx) (fun v u q => ?_) (fun n u q => q)
  obtain ⟨r, rfl, h⟩ := xqi_get q
  refine xJ.if_eq (tgt := 16) (o_String_charAt 2 rfl) (by decide) (fun z => ?_) (fun z => ?_)
  · replace h := h.1 z
    refine xJ.aload_n (o_String_charAt 8 rfl) rfl ?_
    refine xJ.getXv (i := 2) (by decide) (o_String_charAt 9 rfl) fx_String_9 ?_
    refine xJ.iload_n (o_String_charAt 10 rfl) rfl ?_
    exact h.elim
  · replace h := h.2 z
    refine xJ.aload_n (o_String_charAt 3 rfl) rfl ?_
    refine xJ.getXv (i := 2) (by decide) (o_String_charAt 4 rfl) fx_String_9 ?_
    refine xJ.iload_n (o_String_charAt 5 rfl) rfl ?_
    refine xJ.callS (Y' := Y_StringLatin1_charAt) (o_String_charAt 6 rfl) m_String_495 y_StringLatin1_charAt st_StringLatin1_charAt (s_StringLatin1_charAt_912 h) rfl rfl (Nat.le_of_ble_eq_true rfl) (fun _ hx => by cases hx) (fun v u q => ?_) (fun n u q => q)
    obtain ⟨r, rfl, h⟩ := xqi_get q
    exact xJ.nreturn (o_String_charAt 7 rfl) rfl h.1 h.2
def w_StringLatin1_indexOfChar_911_7 (Q : xO → xS → Prop) : Nat → Int32 → Int32 → Int32 → xS → Prop
  | 0 => fun _ _ _ _ => False
  | n + 1 => fun a3 a4 a5 σ =>
    ((a3 ≤ a5 → Q (.inl (some (.int (-1)))) σ) ∧ (¬ a3 ≤ a5 → (vp_in a5 18 ∧ ((¬ (xch 1 a5) = a4 → (∀ x2 : Int32, x2 = a5 + 1 → w_StringLatin1_indexOfChar_911_7 Q n a3 a4 x2 σ)) ∧ ((xch 1 a5) = a4 → Q (.inl (some (.int a5))) σ)))))
def wp_StringLatin1_indexOfChar_911 (Q : xO → xS → Prop) (σ : xS) (a1 : Int32) (a2 : Int32) (a3 : Int32) : Prop :=
  (∀ x1 : Int32, x1 = a1.toInt8.toInt32 → ∃ m, w_StringLatin1_indexOfChar_911_7 Q m a3 x1 a2 σ)
set_option maxRecDepth 20000 in
theorem sw_StringLatin1_indexOfChar_911_7 {Γ : xG} {d b0 : Nat} {Q : xO → xS → Prop} : ∀ (n : Nat) (a3 : Int32) (a4 : Int32) (a5 : Int32) (σ : xS), w_StringLatin1_indexOfChar_911_7 Q n a3 a4 a5 σ → xJ Γ Y_StringLatin1_indexOfChar (d + 0) b0 7 [(0, .ref 911), (3, .int a3), (4, .int a4), (5, .int a5)] [] σ Q := by
  intro n
  induction n with
  | zero => intro a3 a4 a5 σ h; exact h.elim
  | succ n ih =>
    intro a3 a4 a5 σ h
    refine xJ.iload (o_StringLatin1_indexOfChar 5 rfl) rfl ?_
    refine xJ.iload_n (o_StringLatin1_indexOfChar 6 rfl) rfl ?_
    refine xJ.icmp_ge (tgt := 31) (o_StringLatin1_indexOfChar 7 rfl) (by decide) (fun z => ?_) (fun z => ?_)
    · replace h := h.1 z
      refine xJ.iconst (v := (-1)) (o_StringLatin1_indexOfChar 17 rfl) (by decide) ?_
      exact xJ.ireturn (o_StringLatin1_indexOfChar 18 rfl) rfl h
    · replace h := h.2 z
      refine xJ.aload_n (o_StringLatin1_indexOfChar 8 rfl) rfl ?_
      refine xJ.iload (o_StringLatin1_indexOfChar 9 rfl) rfl ?_
      refine xJ.baloadX (i := 1) (by decide) (o_StringLatin1_indexOfChar 10 rfl) h.1 ?_
      replace h := h.2
      refine xJ.iload (o_StringLatin1_indexOfChar 11 rfl) rfl ?_
      refine xJ.icmp_ne (tgt := 25) (o_StringLatin1_indexOfChar 12 rfl) (by decide) (fun z => ?_) (fun z => ?_)
      · replace h := h.1 z
        refine xJ.iincC (w := 1) (o_StringLatin1_indexOfChar 15 rfl) rfl (by decide) (by decide) ?_
        replace h := h _ rfl
        refine xJ.goto (tgt := 7) (o_StringLatin1_indexOfChar 16 rfl) (by decide) ?_
        exact xJ.lvs (by exact ⟨rfl, rfl, rfl, rfl, trivial⟩) (ih _ _ _ _ h)
      · replace h := h.2 z
        refine xJ.iload (o_StringLatin1_indexOfChar 13 rfl) rfl ?_
        exact xJ.ireturn (o_StringLatin1_indexOfChar 14 rfl) rfl h
set_option maxRecDepth 20000 in
theorem s_StringLatin1_indexOfChar_911 {Γ : xG} {d : Nat} {Q : xO → xS → Prop} {σ : xS} {a1 : Int32} {a2 : Int32} {a3 : Int32} (h : wp_StringLatin1_indexOfChar_911 Q σ a1 a2 a3) : xM Γ Y_StringLatin1_indexOfChar (d + 0) [.ref 911, .int a1, .int a2, .int a3] σ Q := by
  refine xM.ofF (by decide +kernel) (Nat.le_of_ble_eq_true rfl) ?_
  refine xJ.iload_n (o_StringLatin1_indexOfChar 0 rfl) rfl ?_
  refine xJ.i2b (o_StringLatin1_indexOfChar 1 rfl) rfl ?_
  refine xJ.istore (o_StringLatin1_indexOfChar 2 rfl) (by decide) ?_
  replace h := h _ rfl
  refine xJ.iload_n (o_StringLatin1_indexOfChar 3 rfl) rfl ?_
  refine xJ.istore (o_StringLatin1_indexOfChar 4 rfl) (by decide) ?_
  obtain ⟨m, h⟩ := h
  exact xJ.lvs (by exact ⟨rfl, rfl, rfl, rfl, trivial⟩) (sw_StringLatin1_indexOfChar_911_7 m _ _ _ _ h)
def wp_Math_min (Q : xO → xS → Prop) (σ : xS) (a0 : Int32) (a1 : Int32) : Prop :=
  ((a1 < a0 → Q (.inl (some (.int a1))) σ) ∧ (¬ a1 < a0 → Q (.inl (some (.int a0))) σ))
set_option maxRecDepth 20000 in
theorem s_Math_min {Γ : xG} {d : Nat} {Q : xO → xS → Prop} {σ : xS} {a0 : Int32} {a1 : Int32} (h : wp_Math_min Q σ a0 a1) : xM Γ Y_Math_min (d + 0) [.int a0, .int a1] σ Q := by
  refine xM.ofF (by decide +kernel) (Nat.le_of_ble_eq_true rfl) ?_
  refine xJ.iload_n (o_Math_min 0 rfl) rfl ?_
  refine xJ.iload_n (o_Math_min 1 rfl) rfl ?_
  refine xJ.icmp_gt (tgt := 9) (o_Math_min 2 rfl) (by decide) (fun z => ?_) (fun z => ?_)
  · replace h := h.1 z
    refine xJ.iload_n (o_Math_min 5 rfl) rfl ?_
    exact xJ.ireturn (o_Math_min 6 rfl) rfl h
  · replace h := h.2 z
    refine xJ.iload_n (o_Math_min 3 rfl) rfl ?_
    refine xJ.goto (tgt := 10) (o_Math_min 4 rfl) (by decide) ?_
    exact xJ.ireturn (o_Math_min 6 rfl) rfl h
def wp_Math_max (Q : xO → xS → Prop) (σ : xS) (a0 : Int32) (a1 : Int32) : Prop :=
  ((a0 < a1 → Q (.inl (some (.int a1))) σ) ∧ (¬ a0 < a1 → Q (.inl (some (.int a0))) σ))
set_option maxRecDepth 20000 in
theorem s_Math_max {Γ : xG} {d : Nat} {Q : xO → xS → Prop} {σ : xS} {a0 : Int32} {a1 : Int32} (h : wp_Math_max Q σ a0 a1) : xM Γ Y_Math_max (d + 0) [.int a0, .int a1] σ Q := by
  refine xM.ofF (by decide +kernel) (Nat.le_of_ble_eq_true rfl) ?_
  refine xJ.iload_n (o_Math_max 0 rfl) rfl ?_
  refine xJ.iload_n (o_Math_max 1 rfl) rfl ?_
  refine xJ.icmp_lt (tgt := 9) (o_Math_max 2 rfl) (by decide) (fun z => ?_) (fun z => ?_)
  · replace h := h.1 z
    refine xJ.iload_n (o_Math_max 5 rfl) rfl ?_
    exact xJ.ireturn (o_Math_max 6 rfl) rfl h
  · replace h := h.2 z
    refine xJ.iload_n (o_Math_max 3 rfl) rfl ?_
    refine xJ.goto (tgt := 10) (o_Math_max 4 rfl) (by decide) ?_
    exact xJ.ireturn (o_Math_max 6 rfl) rfl h
def wp_StringLatin1_canEncode (Q : xO → xS → Prop) (σ : xS) (a0 : Int32) : Prop :=
  ((a0 < 0 → Q (.inl (some (.int 0))) σ) ∧ (¬ a0 < 0 → ((255 < a0 → Q (.inl (some (.int 0))) σ) ∧ (¬ 255 < a0 → Q (.inl (some (.int 1))) σ))))
set_option maxRecDepth 20000 in
theorem s_StringLatin1_canEncode {Γ : xG} {d : Nat} {Q : xO → xS → Prop} {σ : xS} {a0 : Int32} (h : wp_StringLatin1_canEncode Q σ a0) : xM Γ Y_StringLatin1_canEncode (d + 0) [.int a0] σ Q := by
  refine xM.ofF (by decide +kernel) (Nat.le_of_ble_eq_true rfl) ?_
  refine xJ.iload_n (o_StringLatin1_canEncode 0 rfl) rfl ?_
  refine xJ.if_lt (tgt := 15) (o_StringLatin1_canEncode 1 rfl) (by decide) (fun z => ?_) (fun z => ?_)
  · replace h := h.1 z
    refine xJ.iconst (v := 0) (o_StringLatin1_canEncode 7 rfl) (by decide) ?_
    exact xJ.zreturn (o_StringLatin1_canEncode 8 rfl) rfl (Or.inl rfl) h
  · replace h := h.2 z
    refine xJ.iload_n (o_StringLatin1_canEncode 2 rfl) rfl ?_
    refine xJ.sipush (v := 255) (o_StringLatin1_canEncode 3 rfl) (by decide) ?_
    refine xJ.icmp_gt (tgt := 15) (o_StringLatin1_canEncode 4 rfl) (by decide) (fun z => ?_) (fun z => ?_)
    · replace h := h.1 z
      refine xJ.iconst (v := 0) (o_StringLatin1_canEncode 7 rfl) (by decide) ?_
      exact xJ.zreturn (o_StringLatin1_canEncode 8 rfl) rfl (Or.inl rfl) h
    · replace h := h.2 z
      refine xJ.iconst (v := 1) (o_StringLatin1_canEncode 5 rfl) (by decide) ?_
      refine xJ.goto (tgt := 16) (o_StringLatin1_canEncode 6 rfl) (by decide) ?_
      exact xJ.zreturn (o_StringLatin1_canEncode 8 rfl) rfl (Or.inr rfl) h
def wp_StringLatin1_indexOf_911 (Q : xO → xS → Prop) (σ : xS) (a1 : Int32) (a2 : Int32) (a3 : Int32) : Prop :=
  wp_StringLatin1_canEncode (xqi (fun r2 u1 => ((¬ r2 = 0 → wp_Math_max (xqi (fun r4 u3 => wp_Math_min (xqi (fun r6 u5 => ((r4 < r6 → wp_StringLatin1_indexOfChar_911 (xqi (fun r8 u7 => Q (.inl (some (.int r8))) u7) (fun n u => Q (.inr n) u)) u5 a1 r4 r6) ∧ (¬ r4 < r6 → Q (.inl (some (.int (-1)))) u5))) (fun n u => Q (.inr n) u)) u3 a3 (Int32.ofNat 18)) (fun n u => Q (.inr n) u)) u1 a2 0) ∧ (r2 = 0 → Q (.inl (some (.int (-1)))) u1))) (fun n u => Q (.inr n) u)) σ a1
set_option maxRecDepth 20000 in
theorem s_StringLatin1_indexOf_911 {Γ : xG} {d : Nat} {Q : xO → xS → Prop} {σ : xS} {a1 : Int32} {a2 : Int32} {a3 : Int32} (h : wp_StringLatin1_indexOf_911 Q σ a1 a2 a3) : xM Γ Y_StringLatin1_indexOf (d + 1) [.ref 911, .int a1, .int a2, .int a3] σ Q := by
  refine xM.ofF (by decide +kernel) (Nat.le_of_ble_eq_true rfl) ?_
  refine xJ.iload_n (o_StringLatin1_indexOf 0 rfl) rfl ?_
  refine xJ.callS (Y' := Y_StringLatin1_canEncode) (o_StringLatin1_indexOf 1 rfl) m_StringLatin1_88 y_StringLatin1_canEncode st_StringLatin1_canEncode (s_StringLatin1_canEncode h) rfl rfl (Nat.le_of_ble_eq_true rfl) (fun _ hx => by cases hx) (fun v u q => ?_) (fun n u q => q)
  obtain ⟨r, rfl, h⟩ := xqi_get q
  refine xJ.if_ne (tgt := 9) (o_StringLatin1_indexOf 2 rfl) (by decide) (fun z => ?_) (fun z => ?_)
  · replace h := h.1 z
    refine xJ.iload_n (o_StringLatin1_indexOf 5 rfl) rfl ?_
    refine xJ.iconst (v := 0) (o_StringLatin1_indexOf 6 rfl) (by decide) ?_
    refine xJ.callS (Y' := Y_Math_max) (o_StringLatin1_indexOf 7 rfl) m_StringLatin1_92 y_Math_max st_Math_max (s_Math_max h) rfl rfl (Nat.le_of_ble_eq_true rfl) (fun _ hx => by cases hx) (fun v u q => ?_) (fun n u q => q)
    obtain ⟨r, rfl, h⟩ := xqi_get q
    refine xJ.istore_n (o_StringLatin1_indexOf 8 rfl) (by decide) ?_
    refine xJ.iload_n (o_StringLatin1_indexOf 9 rfl) rfl ?_
    refine xJ.aload_n (o_StringLatin1_indexOf 10 rfl) rfl ?_
    refine xJ.alenX (i := 1) (by decide) (o_StringLatin1_indexOf 11 rfl) ?_
    refine xJ.callS (Y' := Y_Math_min) (o_StringLatin1_indexOf 12 rfl) m_StringLatin1_38 y_Math_min st_Math_min (s_Math_min h) rfl rfl (Nat.le_of_ble_eq_true rfl) (fun _ hx => by cases hx) (fun v u q => ?_) (fun n u q => q)
    obtain ⟨r, rfl, h⟩ := xqi_get q
    refine xJ.istore_n (o_StringLatin1_indexOf 13 rfl) (by decide) ?_
    refine xJ.iload_n (o_StringLatin1_indexOf 14 rfl) rfl ?_
    refine xJ.iload_n (o_StringLatin1_indexOf 15 rfl) rfl ?_
    refine xJ.icmp_lt (tgt := 29) (o_StringLatin1_indexOf 16 rfl) (by decide) (fun z => ?_) (fun z => ?_)
    · replace h := h.1 z
      refine xJ.aload_n (o_StringLatin1_indexOf 19 rfl) rfl ?_
      refine xJ.iload_n (o_StringLatin1_indexOf 20 rfl) rfl ?_
      refine xJ.iload_n (o_StringLatin1_indexOf 21 rfl) rfl ?_
      refine xJ.iload_n (o_StringLatin1_indexOf 22 rfl) rfl ?_
      refine xJ.callS (Y' := Y_StringLatin1_indexOfChar) (o_StringLatin1_indexOf 23 rfl) m_StringLatin1_95 y_StringLatin1_indexOfChar st_StringLatin1_indexOfChar (s_StringLatin1_indexOfChar_911 h) rfl rfl (Nat.le_of_ble_eq_true rfl) (fun _ hx => by cases hx) (fun v u q => ?_) (fun n u q => q)
      obtain ⟨r, rfl, h⟩ := xqi_get q
      exact xJ.ireturn (o_StringLatin1_indexOf 24 rfl) rfl h
    · replace h := h.2 z
      refine xJ.iconst (v := (-1)) (o_StringLatin1_indexOf 17 rfl) (by decide) ?_
      exact xJ.ireturn (o_StringLatin1_indexOf 18 rfl) rfl h
  · replace h := h.2 z
    refine xJ.iconst (v := (-1)) (o_StringLatin1_indexOf 3 rfl) (by decide) ?_
    exact xJ.ireturn (o_StringLatin1_indexOf 4 rfl) rfl h
def wp_String_indexOf1_901 (Q : xO → xS → Prop) (σ : xS) (a1 : Int32) (a2 : Int32) : Prop :=
  wp_String_isLatin1_901 (xqi (fun r2 u1 => ((r2 = 0 → wp_String_length_901 (xqi (fun r4 u3 => False) (fun n u => Q (.inr n) u)) u1 ) ∧ (¬ r2 = 0 → wp_String_length_901 (xqi (fun r8 u7 => wp_StringLatin1_indexOf_911 (xqi (fun r10 u9 => Q (.inl (some (.int r10))) u9) (fun n u => Q (.inr n) u)) u7 a1 a2 r8) (fun n u => Q (.inr n) u)) u1 ))) (fun n u => Q (.inr n) u)) σ 
set_option maxRecDepth 20000 in
theorem s_String_indexOf1_901 {Γ : xG} {d : Nat} {Q : xO → xS → Prop} {σ : xS} {a1 : Int32} {a2 : Int32} (h : wp_String_indexOf1_901 Q σ a1 a2) : xM Γ Y_String_indexOf1 (d + 2) [.ref 901, .int a1, .int a2] σ Q := by
  refine xM.ofF (by decide +kernel) (Nat.le_of_ble_eq_true rfl) ?_
  refine xJ.aload_n (o_String_indexOf1 0 rfl) rfl ?_
  refine xJ.callX (Y' := Y_String_isLatin1) (o_String_indexOf1 1 rfl) m_String_492 y_String_isLatin1 im_String_isLatin1 se_String_isLatin1 rfl ⟨by decide, by decide⟩ (s_String_isLatin1_901 h) rfl rfl (Nat.le_of_ble_eq_true rfl) (fun _ hx => by cases hx) (fun v u q => ?_) (fun n u q => q)
  obtain ⟨r, rfl, h⟩ := xqi_get q
  refine xJ.if_eq (tgt := 23) (o_String_indexOf1 2 rfl) (by decide) (fun z => ?_) (fun z => ?_)
  · replace h := h.1 z
    refine xJ.aload_n (o_String_indexOf1 11 rfl) rfl ?_
    refine xJ.getXv (i := 1) (by decide) (o_String_indexOf1 12 rfl) fx_String_9 ?_
    refine xJ.iload_n (o_String_indexOf1 13 rfl) rfl ?_
    refine xJ.iload_n (o_String_indexOf1 14 rfl) rfl ?_
    refine xJ.aload_n (o_String_indexOf1 15 rfl) rfl ?_
    refine xJ.callX (Y' := Y_String_length) (o_String_indexOf1 16 rfl) m_String_505 y_String_length im_String_length se_String_length rfl ⟨by decide, by decide⟩ (s_String_length_901 h) rfl rfl (Nat.le_of_ble_eq_true rfl) (fun _ hx => by cases hx) (fun v u q => ?_) (fun n u q => q)
    obtain ⟨r, rfl, h⟩ := xqi_get q
    exact h.elim
  · replace h := h.2 z
    refine xJ.aload_n (o_String_indexOf1 3 rfl) rfl ?_
    refine xJ.getXv (i := 1) (by decide) (o_String_indexOf1 4 rfl) fx_String_9 ?_
    refine xJ.iload_n (o_String_indexOf1 5 rfl) rfl ?_
    refine xJ.iload_n (o_String_indexOf1 6 rfl) rfl ?_
    refine xJ.aload_n (o_String_indexOf1 7 rfl) rfl ?_
    refine xJ.callX (Y' := Y_String_length) (o_String_indexOf1 8 rfl) m_String_505 y_String_length im_String_length se_String_length rfl ⟨by decide, by decide⟩ (s_String_length_901 h) rfl rfl (Nat.le_of_ble_eq_true rfl) (fun _ hx => by cases hx) (fun v u q => ?_) (fun n u q => q)
    obtain ⟨r, rfl, h⟩ := xqi_get q
    refine xJ.callS (Y' := Y_StringLatin1_indexOf) (o_String_indexOf1 9 rfl) m_String_637 y_StringLatin1_indexOf st_StringLatin1_indexOf (s_StringLatin1_indexOf_911 h) rfl rfl (Nat.le_of_ble_eq_true rfl) (fun _ hx => by cases hx) (fun v u q => ?_) (fun n u q => q)
    obtain ⟨r, rfl, h⟩ := xqi_get q
    refine xJ.goto (tgt := 36) (o_String_indexOf1 10 rfl) (by decide) ?_
    exact xJ.ireturn (o_String_indexOf1 18 rfl) rfl h
def wp_String_indexOf0_901 (Q : xO → xS → Prop) (σ : xS) (a1 : Int32) : Prop :=
  wp_String_indexOf1_901 (xqi (fun r2 u1 => Q (.inl (some (.int r2))) u1) (fun n u => Q (.inr n) u)) σ a1 0
set_option maxRecDepth 20000 in
theorem s_String_indexOf0_901 {Γ : xG} {d : Nat} {Q : xO → xS → Prop} {σ : xS} {a1 : Int32} (h : wp_String_indexOf0_901 Q σ a1) : xM Γ Y_String_indexOf0 (d + 3) [.ref 901, .int a1] σ Q := by
  refine xM.ofF (by decide +kernel) (Nat.le_of_ble_eq_true rfl) ?_
  refine xJ.aload_n (o_String_indexOf0 0 rfl) rfl ?_
  refine xJ.iload_n (o_String_indexOf0 1 rfl) rfl ?_
  refine xJ.iconst (v := 0) (o_String_indexOf0 2 rfl) (by decide) ?_
  refine xJ.callX (Y' := Y_String_indexOf1) (o_String_indexOf0 3 rfl) m_String_633 y_String_indexOf1 im_String_indexOf1 se_String_indexOf1 rfl ⟨by decide, by decide⟩ (s_String_indexOf1_901 h) rfl rfl (Nat.le_of_ble_eq_true rfl) (fun _ hx => by cases hx) (fun v u q => ?_) (fun n u q => q)
  obtain ⟨r, rfl, h⟩ := xqi_get q
  exact xJ.ireturn (o_String_indexOf0 4 rfl) rfl h
