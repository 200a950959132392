def w_Text_append_3 (Q : xO → xS → Prop) : Nat → Int32 → Int32 → xS → Prop
  | 0 => fun _ _ _ => False
  | n + 1 => fun a1 a2 σ =>
    ((a2 < 0 → Q (.inl none) σ) ∧ (¬ a2 < 0 → ((65536 ≤ (xi σ 1 1) → Q (.inl none) σ) ∧ (¬ 65536 ≤ (xi σ 1 1) → (vp_in (xi σ 1 1) 65536 ∧ (∀ s1 : xS, s1 = xpi σ 2 (xi σ 1 1).toNatClampNeg (vp_nar .byte ((jishr a1 a2).toInt8.toInt32)) → (∀ s2 : xS, s2 = xpi s1 1 1 ((xi s1 1 1) + 1) → (∀ x3 : Int32, x3 = a2 + (-8) → w_Text_append_3 Q n a1 x3 s2))))))))
def wp_Text_append (Q : xO → xS → Prop) (σ : xS) (a1 : Int32) : Prop :=
  ∃ m, w_Text_append_3 Q m a1 24 σ
set_option maxRecDepth 20000 in
theorem sw_Text_append_3 {γ : xG1} {d b0 : Nat} {Q : xO → xS → Prop} : ∀ (n : Nat) (a1 : Int32) (a2 : Int32) (σ : xS), w_Text_append_3 Q n a1 a2 σ → xJ (SHP, γ) Y_Text_append (d + 0) b0 3 [(0, .ref 1), (1, .int a1), (2, .int a2)] [] σ Q := by
  intro n
  induction n with
  | zero => intro a1 a2 σ h; exact h.elim
  | succ n ih =>
    intro a1 a2 σ h
    refine xJ.iload_n (o_Text_append 2 rfl) rfl ?_
    refine xJ.if_lt (tgt := 45) (o_Text_append 3 rfl) (by decide) (fun z => ?_) (fun z => ?_)
    · replace h := h.1 z
      exact xJ.return_ (o_Text_append 25 rfl) rfl h
    · replace h := h.2 z
      refine xJ.aload_n (o_Text_append 4 rfl) rfl ?_
      refine xJ.getfield (o_Text_append 5 rfl) f_Text_41 rfl rfl ?_
      refine xJ.ldc (v := 65536) (o_Text_append 6 rfl) k_Text_9 ?_
      refine xJ.icmp_ge (tgt := 45) (o_Text_append 7 rfl) (by decide) (fun z => ?_) (fun z => ?_)
      · replace h := h.1 z
        exact xJ.return_ (o_Text_append 25 rfl) rfl h
      · replace h := h.2 z
        refine xJ.aload_n (o_Text_append 8 rfl) rfl ?_
        refine xJ.getfield (o_Text_append 9 rfl) f_Text_10 rfl rfl ?_
        refine xJ.aload_n (o_Text_append 10 rfl) rfl ?_
        refine xJ.getfield (o_Text_append 11 rfl) f_Text_41 rfl rfl ?_
        refine xJ.iload_n (o_Text_append 12 rfl) rfl ?_
        refine xJ.iload_n (o_Text_append 13 rfl) rfl ?_
        refine xJ.ishr (o_Text_append 14 rfl) ?_
        refine xJ.i2b (o_Text_append 15 rfl) rfl ?_
        refine xJ.bastore (o_Text_append 16 rfl) rfl h.1 ?_
        replace h := h.2
        replace h := h _ rfl
        refine xJ.aload_n (o_Text_append 17 rfl) rfl ?_
        refine xJ.dup (o_Text_append 18 rfl) rfl ?_
        refine xJ.getfield (o_Text_append 19 rfl) f_Text_41 rfl rfl ?_
        refine xJ.iconst (v := 1) (o_Text_append 20 rfl) (by decide) ?_
        refine xJ.iadd (o_Text_append 21 rfl) ?_
        refine xJ.putI (o_Text_append 22 rfl) f_Text_41 rfl rfl rfl ?_
        replace h := h _ rfl
        refine xJ.iincC (w := (-8)) (o_Text_append 23 rfl) rfl (by decide) (by decide) ?_
        replace h := h _ rfl
        refine xJ.goto (tgt := 3) (o_Text_append 24 rfl) (by decide) ?_
        exact xJ.lvs (by exact ⟨rfl, rfl, rfl, trivial⟩) (ih _ _ _ h)
set_option maxRecDepth 20000 in
theorem s_Text_append {γ : xG1} {d : Nat} {Q : xO → xS → Prop} {σ : xS} {a1 : Int32} (h : wp_Text_append Q σ a1) : xM (SHP, γ) Y_Text_append (d + 0) [.ref 1, .int a1] σ Q := by
  refine xM.of (by decide) (Nat.le_of_ble_eq_true rfl) ?_
  refine xJ.bipush (v := 24) (o_Text_append 0 rfl) (by decide) ?_
  refine xJ.istore_n (o_Text_append 1 rfl) (by decide) ?_
  obtain ⟨m, h⟩ := h
  exact xJ.lvs (by exact ⟨rfl, rfl, rfl, trivial⟩) (sw_Text_append_3 m _ _ _ h)
def wp_Text_keepPiece (Q : xO → xS → Prop) (σ : xS)  : Prop :=
  (∀ x1 : Int64, x1 = (((xi σ 1 10).toInt64) ||| (jlshl ((xi σ 1 11).toInt64) 20)) → (vp_in (xi σ 1 5) 65537 ∧ (∀ s2 : xS, s2 = xpl σ 3 (xi σ 1 5).toNatClampNeg ((x1 ||| (jlshl ((xi σ 1 9).toInt64) 40)) ||| (jlshl (((xi σ 1 12) + 1).toInt64) 48)) → (∀ s3 : xS, s3 = xpi s2 1 5 ((xi s2 1 5) + 1) → Q (.inl none) s3))))
set_option maxRecDepth 20000 in
theorem s_Text_keepPiece {γ : xG1} {d : Nat} {Q : xO → xS → Prop} {σ : xS}  (h : wp_Text_keepPiece Q σ ) : xM (SHP, γ) Y_Text_keepPiece (d + 0) [.ref 1] σ Q := by
  refine xM.of (by decide) (Nat.le_of_ble_eq_true rfl) ?_
  refine xJ.aload_n (o_Text_keepPiece 0 rfl) rfl ?_
  refine xJ.getfield (o_Text_keepPiece 1 rfl) f_Text_58 rfl rfl ?_
  refine xJ.i2l (o_Text_keepPiece 2 rfl) rfl ?_
  refine xJ.aload_n (o_Text_keepPiece 3 rfl) rfl ?_
  refine xJ.getfield (o_Text_keepPiece 4 rfl) f_Text_49 rfl rfl ?_
  refine xJ.i2l (o_Text_keepPiece 5 rfl) rfl ?_
  refine xJ.bipush (v := 20) (o_Text_keepPiece 6 rfl) (by decide) ?_
  refine xJ.lshl (o_Text_keepPiece 7 rfl) rfl ?_
  refine xJ.lor (o_Text_keepPiece 8 rfl) ?_
  refine xJ.lstore_n (o_Text_keepPiece 9 rfl) (by decide) ?_
  replace h := h _ rfl
  refine xJ.aload_n (o_Text_keepPiece 10 rfl) rfl ?_
  refine xJ.getfield (o_Text_keepPiece 11 rfl) f_Text_21 rfl rfl ?_
  refine xJ.aload_n (o_Text_keepPiece 12 rfl) rfl ?_
  refine xJ.getfield (o_Text_keepPiece 13 rfl) f_Text_43 rfl rfl ?_
  refine xJ.lload_n (o_Text_keepPiece 14 rfl) rfl ?_
  refine xJ.aload_n (o_Text_keepPiece 15 rfl) rfl ?_
  refine xJ.getfield (o_Text_keepPiece 16 rfl) f_Text_52 rfl rfl ?_
  refine xJ.i2l (o_Text_keepPiece 17 rfl) rfl ?_
  refine xJ.bipush (v := 40) (o_Text_keepPiece 18 rfl) (by decide) ?_
  refine xJ.lshl (o_Text_keepPiece 19 rfl) rfl ?_
  refine xJ.lor (o_Text_keepPiece 20 rfl) ?_
  refine xJ.aload_n (o_Text_keepPiece 21 rfl) rfl ?_
  refine xJ.getfield (o_Text_keepPiece 22 rfl) f_Text_61 rfl rfl ?_
  refine xJ.iconst (v := 1) (o_Text_keepPiece 23 rfl) (by decide) ?_
  refine xJ.iadd (o_Text_keepPiece 24 rfl) ?_
  refine xJ.i2l (o_Text_keepPiece 25 rfl) rfl ?_
  refine xJ.bipush (v := 48) (o_Text_keepPiece 26 rfl) (by decide) ?_
  refine xJ.lshl (o_Text_keepPiece 27 rfl) rfl ?_
  refine xJ.lor (o_Text_keepPiece 28 rfl) ?_
  refine xJ.lastore (o_Text_keepPiece 29 rfl) rfl h.1 ?_
  replace h := h.2
  replace h := h _ rfl
  refine xJ.aload_n (o_Text_keepPiece 30 rfl) rfl ?_
  refine xJ.dup (o_Text_keepPiece 31 rfl) rfl ?_
  refine xJ.getfield (o_Text_keepPiece 32 rfl) f_Text_43 rfl rfl ?_
  refine xJ.iconst (v := 1) (o_Text_keepPiece 33 rfl) (by decide) ?_
  refine xJ.iadd (o_Text_keepPiece 34 rfl) ?_
  refine xJ.putI (o_Text_keepPiece 35 rfl) f_Text_43 rfl rfl rfl ?_
  replace h := h _ rfl
  exact xJ.return_ (o_Text_keepPiece 36 rfl) rfl h
def wp_Text_isDigit (Q : xO → xS → Prop) (σ : xS) (a0 : Int32) : Prop :=
  ((a0 < 48 → Q (.inl (some (.int 0))) σ) ∧ (¬ a0 < 48 → ((57 < a0 → Q (.inl (some (.int 0))) σ) ∧ (¬ 57 < a0 → Q (.inl (some (.int 1))) σ))))
set_option maxRecDepth 20000 in
theorem s_Text_isDigit {γ : xG1} {d : Nat} {Q : xO → xS → Prop} {σ : xS} {a0 : Int32} (h : wp_Text_isDigit Q σ a0) : xM (SHP, γ) Y_Text_isDigit (d + 0) [.int a0] σ Q := by
  refine xM.of (by decide) (Nat.le_of_ble_eq_true rfl) ?_
  refine xJ.iload_n (o_Text_isDigit 0 rfl) rfl ?_
  refine xJ.bipush (v := 48) (o_Text_isDigit 1 rfl) (by decide) ?_
  refine xJ.icmp_lt (tgt := 16) (o_Text_isDigit 2 rfl) (by decide) (fun z => ?_) (fun z => ?_)
  · replace h := h.1 z
    refine xJ.iconst (v := 0) (o_Text_isDigit 8 rfl) (by decide) ?_
    exact xJ.zreturn (o_Text_isDigit 9 rfl) rfl (Or.inl rfl) h
  · replace h := h.2 z
    refine xJ.iload_n (o_Text_isDigit 3 rfl) rfl ?_
    refine xJ.bipush (v := 57) (o_Text_isDigit 4 rfl) (by decide) ?_
    refine xJ.icmp_gt (tgt := 16) (o_Text_isDigit 5 rfl) (by decide) (fun z => ?_) (fun z => ?_)
    · replace h := h.1 z
      refine xJ.iconst (v := 0) (o_Text_isDigit 8 rfl) (by decide) ?_
      exact xJ.zreturn (o_Text_isDigit 9 rfl) rfl (Or.inl rfl) h
    · replace h := h.2 z
      refine xJ.iconst (v := 1) (o_Text_isDigit 6 rfl) (by decide) ?_
      refine xJ.goto (tgt := 17) (o_Text_isDigit 7 rfl) (by decide) ?_
      exact xJ.zreturn (o_Text_isDigit 9 rfl) rfl (Or.inr rfl) h
def w_Text_digit_32 (Q : xO → xS → Prop) (a0 : Int32) (σ : xS) : Prop :=
  ((a0 < 65 → Q (.inl (some (.int (-1)))) σ) ∧ (¬ a0 < 65 → ((70 < a0 → Q (.inl (some (.int (-1)))) σ) ∧ (¬ 70 < a0 → Q (.inl (some (.int ((a0 - 65) + 10)))) σ))))
def wp_Text_digit (Q : xO → xS → Prop) (σ : xS) (a0 : Int32) : Prop :=
  wp_Text_isDigit (xqi (fun r2 u1 => ((r2 = 0 → ((a0 < 97 → w_Text_digit_32 Q a0 u1) ∧ (¬ a0 < 97 → ((102 < a0 → w_Text_digit_32 Q a0 u1) ∧ (¬ 102 < a0 → Q (.inl (some (.int ((a0 - 97) + 10)))) u1))))) ∧ (¬ r2 = 0 → Q (.inl (some (.int (a0 - 48)))) u1))) (fun n u => Q (.inr n) u)) σ a0
set_option maxRecDepth 20000 in
theorem sw_Text_digit_32 {γ : xG1} {d b0 : Nat} {Q : xO → xS → Prop} {a0 : Int32} {σ : xS} (h : w_Text_digit_32 Q a0 σ) : xJ (SHP, γ) Y_Text_digit (d + 1) b0 32 [(0, .int a0)] [] σ Q := by
  refine xJ.iload_n (o_Text_digit 19 rfl) rfl ?_
  refine xJ.bipush (v := 65) (o_Text_digit 20 rfl) (by decide) ?_
  refine xJ.icmp_lt (tgt := 54) (o_Text_digit 21 rfl) (by decide) (fun z => ?_) (fun z => ?_)
  · replace h := h.1 z
    refine xJ.iconst (v := (-1)) (o_Text_digit 31 rfl) (by decide) ?_
    exact xJ.ireturn (o_Text_digit 32 rfl) rfl h
  · replace h := h.2 z
    refine xJ.iload_n (o_Text_digit 22 rfl) rfl ?_
    refine xJ.bipush (v := 70) (o_Text_digit 23 rfl) (by decide) ?_
    refine xJ.icmp_gt (tgt := 54) (o_Text_digit 24 rfl) (by decide) (fun z => ?_) (fun z => ?_)
    · replace h := h.1 z
      refine xJ.iconst (v := (-1)) (o_Text_digit 31 rfl) (by decide) ?_
      exact xJ.ireturn (o_Text_digit 32 rfl) rfl h
    · replace h := h.2 z
      refine xJ.iload_n (o_Text_digit 25 rfl) rfl ?_
      refine xJ.bipush (v := 65) (o_Text_digit 26 rfl) (by decide) ?_
      refine xJ.isub (o_Text_digit 27 rfl) ?_
      refine xJ.bipush (v := 10) (o_Text_digit 28 rfl) (by decide) ?_
      refine xJ.iadd (o_Text_digit 29 rfl) ?_
      refine xJ.goto (tgt := 55) (o_Text_digit 30 rfl) (by decide) ?_
      exact xJ.ireturn (o_Text_digit 32 rfl) rfl h
set_option maxRecDepth 20000 in
theorem s_Text_digit {γ : xG1} {d : Nat} {Q : xO → xS → Prop} {σ : xS} {a0 : Int32} (h : wp_Text_digit Q σ a0) : xM (SHP, γ) Y_Text_digit (d + 1) [.int a0] σ Q := by
  refine xM.of (by decide) (Nat.le_of_ble_eq_true rfl) ?_
  refine xJ.iload_n (o_Text_digit 0 rfl) rfl ?_
  refine xJ.callS (Y' := Y_Text_isDigit) (o_Text_digit 1 rfl) m_Text_83 y_Text_isDigit st_Text_isDigit (s_Text_isDigit h) rfl rfl (Nat.le_of_ble_eq_true rfl) (fun _ hx => by cases hx) (fun v u q => ?_) (fun n u q => q)
  obtain ⟨r, rfl, h⟩ := xqi_get q
  refine xJ.if_eq (tgt := 12) (o_Text_digit 2 rfl) (by decide) (fun z => ?_) (fun z => ?_)
  · replace h := h.1 z
    refine xJ.iload_n (o_Text_digit 7 rfl) rfl ?_
    refine xJ.bipush (v := 97) (o_Text_digit 8 rfl) (by decide) ?_
    refine xJ.icmp_lt (tgt := 32) (o_Text_digit 9 rfl) (by decide) (fun z => ?_) (fun z => ?_)
    · replace h := h.1 z
      exact xJ.lvs (by exact ⟨rfl, trivial⟩) (sw_Text_digit_32 h)
    · replace h := h.2 z
      refine xJ.iload_n (o_Text_digit 10 rfl) rfl ?_
      refine xJ.bipush (v := 102) (o_Text_digit 11 rfl) (by decide) ?_
      refine xJ.icmp_gt (tgt := 32) (o_Text_digit 12 rfl) (by decide) (fun z => ?_) (fun z => ?_)
      · replace h := h.1 z
        exact xJ.lvs (by exact ⟨rfl, trivial⟩) (sw_Text_digit_32 h)
      · replace h := h.2 z
        refine xJ.iload_n (o_Text_digit 13 rfl) rfl ?_
        refine xJ.bipush (v := 97) (o_Text_digit 14 rfl) (by decide) ?_
        refine xJ.isub (o_Text_digit 15 rfl) ?_
        refine xJ.bipush (v := 10) (o_Text_digit 16 rfl) (by decide) ?_
        refine xJ.iadd (o_Text_digit 17 rfl) ?_
        exact xJ.ireturn (o_Text_digit 18 rfl) rfl h
  · replace h := h.2 z
    refine xJ.iload_n (o_Text_digit 3 rfl) rfl ?_
    refine xJ.bipush (v := 48) (o_Text_digit 4 rfl) (by decide) ?_
    refine xJ.isub (o_Text_digit 5 rfl) ?_
    exact xJ.ireturn (o_Text_digit 6 rfl) rfl h
def w_Text_hasDigits_2 (Q : xO → xS → Prop) : Nat → Int32 → Int32 → xS → Prop
  | 0 => fun _ _ _ => False
  | n + 1 => fun a2 a3 σ =>
    (((xi σ 1 11) ≤ a3 → Q (.inl (some (.int 1))) σ) ∧ (¬ (xi σ 1 11) ≤ a3 → (vp_in a3 65536 ∧ wp_Text_digit (xqi (fun r2 u1 => ((r2 < 0 → Q (.inl (some (.int 0))) u1) ∧ (¬ r2 < 0 → ((r2 < a2 → (∀ x3 : Int32, x3 = a3 + 1 → w_Text_hasDigits_2 Q n a2 x3 u1)) ∧ (¬ r2 < a2 → Q (.inl (some (.int 0))) u1))))) (fun n u => Q (.inr n) u)) σ (xi σ 2 a3.toNatClampNeg))))
def wp_Text_hasDigits (Q : xO → xS → Prop) (σ : xS) (a1 : Int32) (a2 : Int32) : Prop :=
  ∃ m, w_Text_hasDigits_2 Q m a2 a1 σ
set_option maxRecDepth 20000 in
theorem sw_Text_hasDigits_2 {γ : xG1} {d b0 : Nat} {Q : xO → xS → Prop} : ∀ (n : Nat) (a2 : Int32) (a3 : Int32) (σ : xS), w_Text_hasDigits_2 Q n a2 a3 σ → xJ (SHP, γ) Y_Text_hasDigits (d + 2) b0 2 [(0, .ref 1), (2, .int a2), (3, .int a3)] [] σ Q := by
  intro n
  induction n with
  | zero => intro a2 a3 σ h; exact h.elim
  | succ n ih =>
    intro a2 a3 σ h
    refine xJ.iload_n (o_Text_hasDigits 2 rfl) rfl ?_
    refine xJ.aload_n (o_Text_hasDigits 3 rfl) rfl ?_
    refine xJ.getfield (o_Text_hasDigits 4 rfl) f_Text_49 rfl rfl ?_
    refine xJ.icmp_ge (tgt := 40) (o_Text_hasDigits 5 rfl) (by decide) (fun z => ?_) (fun z => ?_)
    · replace h := h.1 z
      refine xJ.iconst (v := 1) (o_Text_hasDigits 21 rfl) (by decide) ?_
      exact xJ.zreturn (o_Text_hasDigits 22 rfl) rfl (Or.inr rfl) h
    · replace h := h.2 z
      refine xJ.aload_n (o_Text_hasDigits 6 rfl) rfl ?_
      refine xJ.getfield (o_Text_hasDigits 7 rfl) f_Text_10 rfl rfl ?_
      refine xJ.iload_n (o_Text_hasDigits 8 rfl) rfl ?_
      refine xJ.baload (o_Text_hasDigits 9 rfl) rfl h.1 ?_
      replace h := h.2
      refine xJ.callS (Y' := Y_Text_digit) (o_Text_hasDigits 10 rfl) m_Text_99 y_Text_digit st_Text_digit (s_Text_digit h) rfl rfl (Nat.le_of_ble_eq_true rfl) (fun _ hx => by cases hx) (fun v u q => ?_) (fun n u q => q)
      obtain ⟨r, rfl, h⟩ := xqi_get q
      refine xJ.istore (o_Text_hasDigits 11 rfl) (by decide) ?_
      refine xJ.iload (o_Text_hasDigits 12 rfl) rfl ?_
      refine xJ.if_lt (tgt := 32) (o_Text_hasDigits 13 rfl) (by decide) (fun z => ?_) (fun z => ?_)
      · replace h := h.1 z
        refine xJ.iconst (v := 0) (o_Text_hasDigits 17 rfl) (by decide) ?_
        exact xJ.zreturn (o_Text_hasDigits 18 rfl) rfl (Or.inl rfl) h
      · replace h := h.2 z
        refine xJ.iload (o_Text_hasDigits 14 rfl) rfl ?_
        refine xJ.iload_n (o_Text_hasDigits 15 rfl) rfl ?_
        refine xJ.icmp_lt (tgt := 34) (o_Text_hasDigits 16 rfl) (by decide) (fun z => ?_) (fun z => ?_)
        · replace h := h.1 z
          refine xJ.iincC (w := 1) (o_Text_hasDigits 19 rfl) rfl (by decide) (by decide) ?_
          replace h := h _ rfl
          refine xJ.goto (tgt := 2) (o_Text_hasDigits 20 rfl) (by decide) ?_
          exact xJ.lvs (by exact ⟨rfl, rfl, rfl, trivial⟩) (ih _ _ _ h)
        · replace h := h.2 z
          refine xJ.iconst (v := 0) (o_Text_hasDigits 17 rfl) (by decide) ?_
          exact xJ.zreturn (o_Text_hasDigits 18 rfl) rfl (Or.inl rfl) h
set_option maxRecDepth 20000 in
theorem s_Text_hasDigits {γ : xG1} {d : Nat} {Q : xO → xS → Prop} {σ : xS} {a1 : Int32} {a2 : Int32} (h : wp_Text_hasDigits Q σ a1 a2) : xM (SHP, γ) Y_Text_hasDigits (d + 2) [.ref 1, .int a1, .int a2] σ Q := by
  refine xM.of (by decide) (Nat.le_of_ble_eq_true rfl) ?_
  refine xJ.iload_n (o_Text_hasDigits 0 rfl) rfl ?_
  refine xJ.istore_n (o_Text_hasDigits 1 rfl) (by decide) ?_
  obtain ⟨m, h⟩ := h
  exact xJ.lvs (by exact ⟨rfl, rfl, rfl, trivial⟩) (sw_Text_hasDigits_2 m _ _ _ h)
def w_Text_isReserved_5 (Q : xO → xS → Prop) : Nat → Int32 → Int32 → xS → Prop
  | 0 => fun _ _ _ => False
  | n + 1 => fun a1 a2 σ =>
    (((xi σ 1 11) ≤ a2 → Q (.inl (some (.int 1))) σ) ∧ (¬ (xi σ 1 11) ≤ a2 → (vp_in a2 65536 ∧ wp_String_charAt_900 (xqi (fun r3 u2 => (((xi σ 2 a2.toNatClampNeg) = r3 → (∀ x4 : Int32, x4 = a2 + 1 → w_Text_isReserved_5 Q n a1 x4 u2)) ∧ (¬ (xi σ 2 a2.toNatClampNeg) = r3 → Q (.inl (some (.int 0))) u2))) (fun n u => Q (.inr n) u)) σ ((a1 + a2) - (xi σ 1 10)))))
def wp_Text_isReserved (Q : xO → xS → Prop) (σ : xS) (a1 : Int32) : Prop :=
  (∀ x1 : Int32, x1 = (xi σ 1 10) → ∃ m, w_Text_isReserved_5 Q m a1 x1 σ)
set_option maxRecDepth 20000 in
theorem sw_Text_isReserved_5 {γ : xG1} {d b0 : Nat} {Q : xO → xS → Prop} : ∀ (n : Nat) (a1 : Int32) (a2 : Int32) (σ : xS), w_Text_isReserved_5 Q n a1 a2 σ → xJ (SHP, γ) Y_Text_isReserved (d + 4) b0 5 [(0, .ref 1), (1, .int a1), (2, .int a2)] [] σ Q := by
  intro n
  induction n with
  | zero => intro a1 a2 σ h; exact h.elim
  | succ n ih =>
    intro a1 a2 σ h
    refine xJ.iload_n (o_Text_isReserved 3 rfl) rfl ?_
    refine xJ.aload_n (o_Text_isReserved 4 rfl) rfl ?_
    refine xJ.getfield (o_Text_isReserved 5 rfl) f_Text_49 rfl rfl ?_
    refine xJ.icmp_ge (tgt := 43) (o_Text_isReserved 6 rfl) (by decide) (fun z => ?_) (fun z => ?_)
    · replace h := h.1 z
      refine xJ.iconst (v := 1) (o_Text_isReserved 24 rfl) (by decide) ?_
      exact xJ.zreturn (o_Text_isReserved 25 rfl) rfl (Or.inr rfl) h
    · replace h := h.2 z
      refine xJ.aload_n (o_Text_isReserved 7 rfl) rfl ?_
      refine xJ.getfield (o_Text_isReserved 8 rfl) f_Text_10 rfl rfl ?_
      refine xJ.iload_n (o_Text_isReserved 9 rfl) rfl ?_
      refine xJ.baload (o_Text_isReserved 10 rfl) rfl h.1 ?_
      replace h := h.2
      refine xJ.ldcS (i := 0) (o_Text_isReserved 11 rfl) t_Text_29 ?_
      refine xJ.iload_n (o_Text_isReserved 12 rfl) rfl ?_
      refine xJ.iload_n (o_Text_isReserved 13 rfl) rfl ?_
      refine xJ.iadd (o_Text_isReserved 14 rfl) ?_
      refine xJ.aload_n (o_Text_isReserved 15 rfl) rfl ?_
      refine xJ.getfield (o_Text_isReserved 16 rfl) f_Text_58 rfl rfl ?_
      refine xJ.isub (o_Text_isReserved 17 rfl) ?_
      refine xJ.callX (Y' := Y_String_charAt) (o_Text_isReserved 18 rfl) m_Text_37 y_String_charAt im_String_charAt se_String_charAt rfl ⟨by decide, by decide⟩ (s_String_charAt_900 h) rfl rfl (Nat.le_of_ble_eq_true rfl) (fun _ hx => by cases hx) (fun v u q => ?_) (fun n u q => q)
      obtain ⟨r, rfl, h⟩ := xqi_get q
      refine xJ.icmp_eq (tgt := 37) (o_Text_isReserved 19 rfl) (by decide) (fun z => ?_) (fun z => ?_)
      · replace h := h.1 z
        refine xJ.iincC (w := 1) (o_Text_isReserved 22 rfl) rfl (by decide) (by decide) ?_
        replace h := h _ rfl
        refine xJ.goto (tgt := 5) (o_Text_isReserved 23 rfl) (by decide) ?_
        exact xJ.lvs (by exact ⟨rfl, rfl, rfl, trivial⟩) (ih _ _ _ h)
      · replace h := h.2 z
        refine xJ.iconst (v := 0) (o_Text_isReserved 20 rfl) (by decide) ?_
        exact xJ.zreturn (o_Text_isReserved 21 rfl) rfl (Or.inl rfl) h
set_option maxRecDepth 20000 in
theorem s_Text_isReserved {γ : xG1} {d : Nat} {Q : xO → xS → Prop} {σ : xS} {a1 : Int32} (h : wp_Text_isReserved Q σ a1) : xM (SHP, γ) Y_Text_isReserved (d + 4) [.ref 1, .int a1] σ Q := by
  refine xM.of (by decide) (Nat.le_of_ble_eq_true rfl) ?_
  refine xJ.aload_n (o_Text_isReserved 0 rfl) rfl ?_
  refine xJ.getfield (o_Text_isReserved 1 rfl) f_Text_58 rfl rfl ?_
  refine xJ.istore_n (o_Text_isReserved 2 rfl) (by decide) ?_
  replace h := h _ rfl
  obtain ⟨m, h⟩ := h
  exact xJ.lvs (by exact ⟨rfl, rfl, rfl, trivial⟩) (sw_Text_isReserved_5 m _ _ _ h)
def w_Text_findReserved_2 (Q : xO → xS → Prop) : Nat → Int32 → xS → Prop
  | 0 => fun _ _ => False
  | n + 1 => fun a1 σ =>
    ((47 ≤ a1 → Q (.inl (some (.int (-1)))) σ) ∧ (¬ 47 ≤ a1 → (vp_in a1 48 ∧ (∀ x1 : Int32, x1 = (xi σ 4 a1.toNatClampNeg) → (vp_in (a1 + 1) 48 ∧ ((¬ (((xi σ 4 (a1 + 1).toNatClampNeg) - x1) - 1) = ((xi σ 1 11) - (xi σ 1 10)) → (∀ x2 : Int32, x2 = a1 + 1 → w_Text_findReserved_2 Q n x2 σ)) ∧ ((((xi σ 4 (a1 + 1).toNatClampNeg) - x1) - 1) = ((xi σ 1 11) - (xi σ 1 10)) → wp_Text_isReserved (xqi (fun r4 u3 => ((r4 = 0 → (∀ x5 : Int32, x5 = a1 + 1 → w_Text_findReserved_2 Q n x5 u3)) ∧ (¬ r4 = 0 → Q (.inl (some (.int a1))) u3))) (fun n u => Q (.inr n) u)) σ x1)))))))
def wp_Text_findReserved (Q : xO → xS → Prop) (σ : xS)  : Prop :=
  ∃ m, w_Text_findReserved_2 Q m 0 σ
set_option maxRecDepth 20000 in
theorem sw_Text_findReserved_2 {γ : xG1} {d b0 : Nat} {Q : xO → xS → Prop} : ∀ (n : Nat) (a1 : Int32) (σ : xS), w_Text_findReserved_2 Q n a1 σ → xJ (SHP, γ) Y_Text_findReserved (d + 5) b0 2 [(0, .ref 1), (1, .int a1)] [] σ Q := by
  intro n
  induction n with
  | zero => intro a1 σ h; exact h.elim
  | succ n ih =>
    intro a1 σ h
    refine xJ.iload_n (o_Text_findReserved 2 rfl) rfl ?_
    refine xJ.bipush (v := 47) (o_Text_findReserved 3 rfl) (by decide) ?_
    refine xJ.icmp_ge (tgt := 55) (o_Text_findReserved 4 rfl) (by decide) (fun z => ?_) (fun z => ?_)
    · replace h := h.1 z
      refine xJ.iconst (v := (-1)) (o_Text_findReserved 34 rfl) (by decide) ?_
      exact xJ.ireturn (o_Text_findReserved 35 rfl) rfl h
    · replace h := h.2 z
      refine xJ.aload_n (o_Text_findReserved 5 rfl) rfl ?_
      refine xJ.getfield (o_Text_findReserved 6 rfl) f_Text_25 rfl rfl ?_
      refine xJ.iload_n (o_Text_findReserved 7 rfl) rfl ?_
      refine xJ.iaload (o_Text_findReserved 8 rfl) rfl h.1 ?_
      replace h := h.2
      refine xJ.istore_n (o_Text_findReserved 9 rfl) (by decide) ?_
      replace h := h _ rfl
      refine xJ.aload_n (o_Text_findReserved 10 rfl) rfl ?_
      refine xJ.getfield (o_Text_findReserved 11 rfl) f_Text_25 rfl rfl ?_
      refine xJ.iload_n (o_Text_findReserved 12 rfl) rfl ?_
      refine xJ.iconst (v := 1) (o_Text_findReserved 13 rfl) (by decide) ?_
      refine xJ.iadd (o_Text_findReserved 14 rfl) ?_
      refine xJ.iaload (o_Text_findReserved 15 rfl) rfl h.1 ?_
      replace h := h.2
      refine xJ.iload_n (o_Text_findReserved 16 rfl) rfl ?_
      refine xJ.isub (o_Text_findReserved 17 rfl) ?_
      refine xJ.iconst (v := 1) (o_Text_findReserved 18 rfl) (by decide) ?_
      refine xJ.isub (o_Text_findReserved 19 rfl) ?_
      refine xJ.aload_n (o_Text_findReserved 20 rfl) rfl ?_
      refine xJ.getfield (o_Text_findReserved 21 rfl) f_Text_49 rfl rfl ?_
      refine xJ.aload_n (o_Text_findReserved 22 rfl) rfl ?_
      refine xJ.getfield (o_Text_findReserved 23 rfl) f_Text_58 rfl rfl ?_
      refine xJ.isub (o_Text_findReserved 24 rfl) ?_
      refine xJ.icmp_ne (tgt := 49) (o_Text_findReserved 25 rfl) (by decide) (fun z => ?_) (fun z => ?_)
      · replace h := h.1 z
        refine xJ.iincC (w := 1) (o_Text_findReserved 32 rfl) rfl (by decide) (by decide) ?_
        replace h := h _ rfl
        refine xJ.goto (tgt := 2) (o_Text_findReserved 33 rfl) (by decide) ?_
        exact xJ.lvs (by exact ⟨rfl, rfl, trivial⟩) (ih _ _ h)
      · replace h := h.2 z
        refine xJ.aload_n (o_Text_findReserved 26 rfl) rfl ?_
        refine xJ.iload_n (o_Text_findReserved 27 rfl) rfl ?_
        refine xJ.callV (Y' := Y_Text_isReserved) (o_Text_findReserved 28 rfl) m_Text_102 y_Text_isReserved im_Text_isReserved se_Text_isReserved rfl rfl (s_Text_isReserved h) rfl rfl (Nat.le_of_ble_eq_true rfl) (fun _ hx => by cases hx) (fun v u q => ?_) (fun n u q => q)
        obtain ⟨r, rfl, h⟩ := xqi_get q
        refine xJ.if_eq (tgt := 49) (o_Text_findReserved 29 rfl) (by decide) (fun z => ?_) (fun z => ?_)
        · replace h := h.1 z
          refine xJ.iincC (w := 1) (o_Text_findReserved 32 rfl) rfl (by decide) (by decide) ?_
          replace h := h _ rfl
          refine xJ.goto (tgt := 2) (o_Text_findReserved 33 rfl) (by decide) ?_
          exact xJ.lvs (by exact ⟨rfl, rfl, trivial⟩) (ih _ _ h)
        · replace h := h.2 z
          refine xJ.iload_n (o_Text_findReserved 30 rfl) rfl ?_
          exact xJ.ireturn (o_Text_findReserved 31 rfl) rfl h
set_option maxRecDepth 20000 in
theorem s_Text_findReserved {γ : xG1} {d : Nat} {Q : xO → xS → Prop} {σ : xS}  (h : wp_Text_findReserved Q σ ) : xM (SHP, γ) Y_Text_findReserved (d + 5) [.ref 1] σ Q := by
  refine xM.of (by decide) (Nat.le_of_ble_eq_true rfl) ?_
  refine xJ.iconst (v := 0) (o_Text_findReserved 0 rfl) (by decide) ?_
  refine xJ.istore_n (o_Text_findReserved 1 rfl) (by decide) ?_
  obtain ⟨m, h⟩ := h
  exact xJ.lvs (by exact ⟨rfl, rfl, trivial⟩) (sw_Text_findReserved_2 m _ _ h)
def w_Text_kindOfWord_143 (Q : xO → xS → Prop) (a2 : Int32) (a3 : Int32) (σ : xS) : Prop :=
  ((¬ a3 = 120 → Q (.inl (some (.int 18))) σ) ∧ (a3 = 120 → ((16 < a2 → Q (.inl (some (.int 18))) σ) ∧ (¬ 16 < a2 → wp_Text_hasDigits (xqi (fun r6 u5 => ((r6 = 0 → Q (.inl (some (.int 18))) u5) ∧ (¬ r6 = 0 → Q (.inl (some (.int 4))) u5))) (fun n u => Q (.inr n) u)) σ ((xi σ 1 10) + 2) 16))))
def w_Text_kindOfWord_114 (Q : xO → xS → Prop) (a2 : Int32) (t0 : Int32) (σ : xS) : Prop :=
  ((¬ t0 = 98 → w_Text_kindOfWord_143 Q a2 t0 σ) ∧ (t0 = 98 → ((64 < a2 → w_Text_kindOfWord_143 Q a2 t0 σ) ∧ (¬ 64 < a2 → wp_Text_hasDigits (xqi (fun r8 u7 => ((r8 = 0 → w_Text_kindOfWord_143 Q a2 t0 u7) ∧ (¬ r8 = 0 → Q (.inl (some (.int 3))) u7))) (fun n u => Q (.inr n) u)) σ ((xi σ 1 10) + 2) 2))))
def w_Text_kindOfWord_41 (Q : xO → xS → Prop) (t0 : Int32) (σ : xS) : Prop :=
  ((t0 = 0 → Q (.inl (some (.int 18))) σ) ∧ (¬ t0 = 0 → wp_Text_hasDigits (xqi (fun r13 u12 => ((r13 = 0 → Q (.inl (some (.int 18))) u12) ∧ (¬ r13 = 0 → Q (.inl (some (.int 2))) u12))) (fun n u => Q (.inr n) u)) σ (xi σ 1 10) 10))
def w_Text_kindOfWord_36 (Q : xO → xS → Prop) (σ : xS) : Prop :=
  w_Text_kindOfWord_41 Q 1 σ
def wp_Text_kindOfWord (Q : xO → xS → Prop) (σ : xS)  : Prop :=
  (vp_in (xi σ 1 10) 65536 ∧ (∀ x1 : Int32, x1 = (xi σ 2 (xi σ 1 10).toNatClampNeg) → wp_Text_isDigit (xqi (fun r3 u2 => ((r3 = 0 → ((x1 = 35 → (∀ x4 : Int32, x4 = (((xi u2 1 11) - (xi u2 1 10)) - 2) → ((1 ≤ x4 → (vp_in ((xi u2 1 10) + 1) 65536 ∧ w_Text_kindOfWord_114 Q x4 (xi u2 2 ((xi u2 1 10) + 1).toNatClampNeg) u2)) ∧ (¬ 1 ≤ x4 → w_Text_kindOfWord_114 Q x4 0 u2)))) ∧ (¬ x1 = 35 → wp_Text_findReserved (xqi (fun r10 u9 => (∀ s11 : xS, s11 = xpi u9 1 12 r10 → Q (.inl (some (.int 5))) s11)) (fun n u => Q (.inr n) u)) u2 ))) ∧ (¬ r3 = 0 → ((¬ x1 = 48 → w_Text_kindOfWord_36 Q  u2) ∧ (x1 = 48 → ((¬ ((xi u2 1 11) - (xi u2 1 10)) = 1 → w_Text_kindOfWord_41 Q 0 u2) ∧ (((xi u2 1 11) - (xi u2 1 10)) = 1 → w_Text_kindOfWord_36 Q  u2))))))) (fun n u => Q (.inr n) u)) σ x1))
set_option maxRecDepth 20000 in
theorem sw_Text_kindOfWord_143 {γ : xG1} {d b0 : Nat} {Q : xO → xS → Prop} {a2 : Int32} {a3 : Int32} {σ : xS} (h : w_Text_kindOfWord_143 Q a2 a3 σ) : xJ (SHP, γ) Y_Text_kindOfWord (d + 6) b0 143 [(0, .ref 1), (2, .int a2), (3, .int a3)] [] σ Q := by
  refine xJ.iload_n (o_Text_kindOfWord 81 rfl) rfl ?_
  refine xJ.bipush (v := 120) (o_Text_kindOfWord 82 rfl) (by decide) ?_
  refine xJ.icmp_ne (tgt := 172) (o_Text_kindOfWord 83 rfl) (by decide) (fun z => ?_) (fun z => ?_)
  · replace h := h.1 z
    refine xJ.bipush (v := 18) (o_Text_kindOfWord 97 rfl) (by decide) ?_
    exact xJ.ireturn (o_Text_kindOfWord 98 rfl) rfl h
  · replace h := h.2 z
    refine xJ.iload_n (o_Text_kindOfWord 84 rfl) rfl ?_
    refine xJ.bipush (v := 16) (o_Text_kindOfWord 85 rfl) (by decide) ?_
    refine xJ.icmp_gt (tgt := 172) (o_Text_kindOfWord 86 rfl) (by decide) (fun z => ?_) (fun z => ?_)
    · replace h := h.1 z
      refine xJ.bipush (v := 18) (o_Text_kindOfWord 97 rfl) (by decide) ?_
      exact xJ.ireturn (o_Text_kindOfWord 98 rfl) rfl h
    · replace h := h.2 z
      refine xJ.aload_n (o_Text_kindOfWord 87 rfl) rfl ?_
      refine xJ.aload_n (o_Text_kindOfWord 88 rfl) rfl ?_
      refine xJ.getfield (o_Text_kindOfWord 89 rfl) f_Text_58 rfl rfl ?_
      refine xJ.iconst (v := 2) (o_Text_kindOfWord 90 rfl) (by decide) ?_
      refine xJ.iadd (o_Text_kindOfWord 91 rfl) ?_
      refine xJ.bipush (v := 16) (o_Text_kindOfWord 92 rfl) (by decide) ?_
      refine xJ.callV (Y' := Y_Text_hasDigits) (o_Text_kindOfWord 93 rfl) m_Text_92 y_Text_hasDigits im_Text_hasDigits se_Text_hasDigits rfl rfl (s_Text_hasDigits h) rfl rfl (Nat.le_of_ble_eq_true rfl) (fun _ hx => by cases hx) (fun v u q => ?_) (fun n u q => q)
      obtain ⟨r, rfl, h⟩ := xqi_get q
      refine xJ.if_eq (tgt := 172) (o_Text_kindOfWord 94 rfl) (by decide) (fun z => ?_) (fun z => ?_)
      · replace h := h.1 z
        refine xJ.bipush (v := 18) (o_Text_kindOfWord 97 rfl) (by decide) ?_
        exact xJ.ireturn (o_Text_kindOfWord 98 rfl) rfl h
      · replace h := h.2 z
        refine xJ.iconst (v := 4) (o_Text_kindOfWord 95 rfl) (by decide) ?_
        exact xJ.ireturn (o_Text_kindOfWord 96 rfl) rfl h
set_option maxRecDepth 20000 in
theorem sw_Text_kindOfWord_114 {γ : xG1} {d b0 : Nat} {Q : xO → xS → Prop} {a2 : Int32} {t0 : Int32} {σ : xS} (h : w_Text_kindOfWord_114 Q a2 t0 σ) : xJ (SHP, γ) Y_Text_kindOfWord (d + 6) b0 114 [(0, .ref 1), (2, .int a2)] [.int t0] σ Q := by
  refine xJ.istore_n (o_Text_kindOfWord 64 rfl) (by decide) ?_
  refine xJ.iload_n (o_Text_kindOfWord 65 rfl) rfl ?_
  refine xJ.bipush (v := 98) (o_Text_kindOfWord 66 rfl) (by decide) ?_
  refine xJ.icmp_ne (tgt := 143) (o_Text_kindOfWord 67 rfl) (by decide) (fun z => ?_) (fun z => ?_)
  · replace h := h.1 z
    exact xJ.lvs (by exact ⟨rfl, rfl, rfl, trivial⟩) (sw_Text_kindOfWord_143 h)
  · replace h := h.2 z
    refine xJ.iload_n (o_Text_kindOfWord 68 rfl) rfl ?_
    refine xJ.bipush (v := 64) (o_Text_kindOfWord 69 rfl) (by decide) ?_
    refine xJ.icmp_gt (tgt := 143) (o_Text_kindOfWord 70 rfl) (by decide) (fun z => ?_) (fun z => ?_)
    · replace h := h.1 z
      exact xJ.lvs (by exact ⟨rfl, rfl, rfl, trivial⟩) (sw_Text_kindOfWord_143 h)
    · replace h := h.2 z
      refine xJ.aload_n (o_Text_kindOfWord 71 rfl) rfl ?_
      refine xJ.aload_n (o_Text_kindOfWord 72 rfl) rfl ?_
      refine xJ.getfield (o_Text_kindOfWord 73 rfl) f_Text_58 rfl rfl ?_
      refine xJ.iconst (v := 2) (o_Text_kindOfWord 74 rfl) (by decide) ?_
      refine xJ.iadd (o_Text_kindOfWord 75 rfl) ?_
      refine xJ.iconst (v := 2) (o_Text_kindOfWord 76 rfl) (by decide) ?_
      refine xJ.callV (Y' := Y_Text_hasDigits) (o_Text_kindOfWord 77 rfl) m_Text_92 y_Text_hasDigits im_Text_hasDigits se_Text_hasDigits rfl rfl (s_Text_hasDigits h) rfl rfl (Nat.le_of_ble_eq_true rfl) (fun _ hx => by cases hx) (fun v u q => ?_) (fun n u q => q)
      obtain ⟨r, rfl, h⟩ := xqi_get q
      refine xJ.if_eq (tgt := 143) (o_Text_kindOfWord 78 rfl) (by decide) (fun z => ?_) (fun z => ?_)
      · replace h := h.1 z
        exact xJ.lvs (by exact ⟨rfl, rfl, rfl, trivial⟩) (sw_Text_kindOfWord_143 h)
      · replace h := h.2 z
        refine xJ.iconst (v := 3) (o_Text_kindOfWord 79 rfl) (by decide) ?_
        exact xJ.ireturn (o_Text_kindOfWord 80 rfl) rfl h
set_option maxRecDepth 20000 in
theorem sw_Text_kindOfWord_41 {γ : xG1} {d b0 : Nat} {Q : xO → xS → Prop} {t0 : Int32} {σ : xS} (h : w_Text_kindOfWord_41 Q t0 σ) : xJ (SHP, γ) Y_Text_kindOfWord (d + 6) b0 41 [(0, .ref 1)] [.int t0] σ Q := by
  refine xJ.istore_n (o_Text_kindOfWord 22 rfl) (by decide) ?_
  refine xJ.iload_n (o_Text_kindOfWord 23 rfl) rfl ?_
  refine xJ.if_eq (tgt := 63) (o_Text_kindOfWord 24 rfl) (by decide) (fun z => ?_) (fun z => ?_)
  · replace h := h.1 z
    refine xJ.bipush (v := 18) (o_Text_kindOfWord 33 rfl) (by decide) ?_
    exact xJ.ireturn (o_Text_kindOfWord 34 rfl) rfl h
  · replace h := h.2 z
    refine xJ.aload_n (o_Text_kindOfWord 25 rfl) rfl ?_
    refine xJ.aload_n (o_Text_kindOfWord 26 rfl) rfl ?_
    refine xJ.getfield (o_Text_kindOfWord 27 rfl) f_Text_58 rfl rfl ?_
    refine xJ.bipush (v := 10) (o_Text_kindOfWord 28 rfl) (by decide) ?_
    refine xJ.callV (Y' := Y_Text_hasDigits) (o_Text_kindOfWord 29 rfl) m_Text_92 y_Text_hasDigits im_Text_hasDigits se_Text_hasDigits rfl rfl (s_Text_hasDigits h) rfl rfl (Nat.le_of_ble_eq_true rfl) (fun _ hx => by cases hx) (fun v u q => ?_) (fun n u q => q)
    obtain ⟨r, rfl, h⟩ := xqi_get q
    refine xJ.if_eq (tgt := 63) (o_Text_kindOfWord 30 rfl) (by decide) (fun z => ?_) (fun z => ?_)
    · replace h := h.1 z
      refine xJ.bipush (v := 18) (o_Text_kindOfWord 33 rfl) (by decide) ?_
      exact xJ.ireturn (o_Text_kindOfWord 34 rfl) rfl h
    · replace h := h.2 z
      refine xJ.iconst (v := 2) (o_Text_kindOfWord 31 rfl) (by decide) ?_
      refine xJ.goto (tgt := 65) (o_Text_kindOfWord 32 rfl) (by decide) ?_
      exact xJ.ireturn (o_Text_kindOfWord 34 rfl) rfl h
set_option maxRecDepth 20000 in
theorem sw_Text_kindOfWord_36 {γ : xG1} {d b0 : Nat} {Q : xO → xS → Prop} {σ : xS} (h : w_Text_kindOfWord_36 Q  σ) : xJ (SHP, γ) Y_Text_kindOfWord (d + 6) b0 36 [(0, .ref 1)] [] σ Q := by
  refine xJ.iconst (v := 1) (o_Text_kindOfWord 19 rfl) (by decide) ?_
  refine xJ.goto (tgt := 41) (o_Text_kindOfWord 20 rfl) (by decide) ?_
  exact xJ.lvs (by exact ⟨rfl, trivial⟩) (sw_Text_kindOfWord_41 h)
set_option maxRecDepth 20000 in
theorem s_Text_kindOfWord {γ : xG1} {d : Nat} {Q : xO → xS → Prop} {σ : xS}  (h : wp_Text_kindOfWord Q σ ) : xM (SHP, γ) Y_Text_kindOfWord (d + 6) [.ref 1] σ Q := by
  refine xM.of (by decide) (Nat.le_of_ble_eq_true rfl) ?_
  refine xJ.aload_n (o_Text_kindOfWord 0 rfl) rfl ?_
  refine xJ.getfield (o_Text_kindOfWord 1 rfl) f_Text_10 rfl rfl ?_
  refine xJ.aload_n (o_Text_kindOfWord 2 rfl) rfl ?_
  refine xJ.getfield (o_Text_kindOfWord 3 rfl) f_Text_58 rfl rfl ?_
  refine xJ.baload (o_Text_kindOfWord 4 rfl) rfl h.1 ?_
  replace h := h.2
  refine xJ.istore_n (o_Text_kindOfWord 5 rfl) (by decide) ?_
  replace h := h _ rfl
  refine xJ.iload_n (o_Text_kindOfWord 6 rfl) rfl ?_
  refine xJ.callS (Y' := Y_Text_isDigit) (o_Text_kindOfWord 7 rfl) m_Text_83 y_Text_isDigit st_Text_isDigit (s_Text_isDigit h) rfl rfl (Nat.le_of_ble_eq_true rfl) (fun _ hx => by cases hx) (fun v u q => ?_) (fun n u q => q)
  obtain ⟨r, rfl, h⟩ := xqi_get q
  refine xJ.if_eq (tgt := 66) (o_Text_kindOfWord 8 rfl) (by decide) (fun z => ?_) (fun z => ?_)
  · replace h := h.1 z
    refine xJ.iload_n (o_Text_kindOfWord 35 rfl) rfl ?_
    refine xJ.bipush (v := 35) (o_Text_kindOfWord 36 rfl) (by decide) ?_
    refine xJ.icmp_eq (tgt := 82) (o_Text_kindOfWord 37 rfl) (by decide) (fun z => ?_) (fun z => ?_)
    · replace h := h.1 z
      refine xJ.aload_n (o_Text_kindOfWord 44 rfl) rfl ?_
      refine xJ.getfield (o_Text_kindOfWord 45 rfl) f_Text_49 rfl rfl ?_
      refine xJ.aload_n (o_Text_kindOfWord 46 rfl) rfl ?_
      refine xJ.getfield (o_Text_kindOfWord 47 rfl) f_Text_58 rfl rfl ?_
      refine xJ.isub (o_Text_kindOfWord 48 rfl) ?_
      refine xJ.iconst (v := 2) (o_Text_kindOfWord 49 rfl) (by decide) ?_
      refine xJ.isub (o_Text_kindOfWord 50 rfl) ?_
      refine xJ.istore_n (o_Text_kindOfWord 51 rfl) (by decide) ?_
      replace h := h _ rfl
      refine xJ.iload_n (o_Text_kindOfWord 52 rfl) rfl ?_
      refine xJ.iconst (v := 1) (o_Text_kindOfWord 53 rfl) (by decide) ?_
      refine xJ.icmp_ge (tgt := 103) (o_Text_kindOfWord 54 rfl) (by decide) (fun z => ?_) (fun z => ?_)
      · replace h := h.1 z
        refine xJ.aload_n (o_Text_kindOfWord 57 rfl) rfl ?_
        refine xJ.getfield (o_Text_kindOfWord 58 rfl) f_Text_10 rfl rfl ?_
        refine xJ.aload_n (o_Text_kindOfWord 59 rfl) rfl ?_
        refine xJ.getfield (o_Text_kindOfWord 60 rfl) f_Text_58 rfl rfl ?_
        refine xJ.iconst (v := 1) (o_Text_kindOfWord 61 rfl) (by decide) ?_
        refine xJ.iadd (o_Text_kindOfWord 62 rfl) ?_
        refine xJ.baload (o_Text_kindOfWord 63 rfl) rfl h.1 ?_
        replace h := h.2
        exact xJ.lvs (by exact ⟨rfl, rfl, trivial⟩) (sw_Text_kindOfWord_114 h)
      · replace h := h.2 z
        refine xJ.iconst (v := 0) (o_Text_kindOfWord 55 rfl) (by decide) ?_
        refine xJ.goto (tgt := 114) (o_Text_kindOfWord 56 rfl) (by decide) ?_
        exact xJ.lvs (by exact ⟨rfl, rfl, trivial⟩) (sw_Text_kindOfWord_114 h)
    · replace h := h.2 z
      refine xJ.aload_n (o_Text_kindOfWord 38 rfl) rfl ?_
      refine xJ.aload_n (o_Text_kindOfWord 39 rfl) rfl ?_
      refine xJ.callV (Y' := Y_Text_findReserved) (o_Text_kindOfWord 40 rfl) m_Text_96 y_Text_findReserved im_Text_findReserved se_Text_findReserved rfl rfl (s_Text_findReserved h) rfl rfl (Nat.le_of_ble_eq_true rfl) (fun _ hx => by cases hx) (fun v u q => ?_) (fun n u q => q)
      obtain ⟨r, rfl, h⟩ := xqi_get q
      refine xJ.putI (o_Text_kindOfWord 41 rfl) f_Text_61 rfl rfl rfl ?_
      replace h := h _ rfl
      refine xJ.iconst (v := 5) (o_Text_kindOfWord 42 rfl) (by decide) ?_
      exact xJ.ireturn (o_Text_kindOfWord 43 rfl) rfl h
  · replace h := h.2 z
    refine xJ.iload_n (o_Text_kindOfWord 9 rfl) rfl ?_
    refine xJ.bipush (v := 48) (o_Text_kindOfWord 10 rfl) (by decide) ?_
    refine xJ.icmp_ne (tgt := 36) (o_Text_kindOfWord 11 rfl) (by decide) (fun z => ?_) (fun z => ?_)
    · replace h := h.1 z
      exact xJ.lvs (by exact ⟨rfl, trivial⟩) (sw_Text_kindOfWord_36 h)
    · replace h := h.2 z
      refine xJ.aload_n (o_Text_kindOfWord 12 rfl) rfl ?_
      refine xJ.getfield (o_Text_kindOfWord 13 rfl) f_Text_49 rfl rfl ?_
      refine xJ.aload_n (o_Text_kindOfWord 14 rfl) rfl ?_
      refine xJ.getfield (o_Text_kindOfWord 15 rfl) f_Text_58 rfl rfl ?_
      refine xJ.isub (o_Text_kindOfWord 16 rfl) ?_
      refine xJ.iconst (v := 1) (o_Text_kindOfWord 17 rfl) (by decide) ?_
      refine xJ.icmp_ne (tgt := 40) (o_Text_kindOfWord 18 rfl) (by decide) (fun z => ?_) (fun z => ?_)
      · replace h := h.1 z
        refine xJ.iconst (v := 0) (o_Text_kindOfWord 21 rfl) (by decide) ?_
        exact xJ.lvs (by exact ⟨rfl, trivial⟩) (sw_Text_kindOfWord_41 h)
      · replace h := h.2 z
        exact xJ.lvs (by exact ⟨rfl, trivial⟩) (sw_Text_kindOfWord_36 h)
def w_Text_isWordSign_33 (Q : xO → xS → Prop) (a0 : Int32) (σ : xS) : Prop :=
  ((a0 ≤ 0 → Q (.inl (some (.int 0))) σ) ∧ (¬ a0 ≤ 0 → wp_String_indexOf0_901 (xqi (fun r4 u3 => ((r4 < 0 → Q (.inl (some (.int 0))) u3) ∧ (¬ r4 < 0 → Q (.inl (some (.int 1))) u3))) (fun n u => Q (.inr n) u)) σ ((a0.toUInt32 % 65536).toInt32)))
def w_Text_isWordSign_19 (Q : xO → xS → Prop) (a0 : Int32) (σ : xS) : Prop :=
  ((a0 < 65 → w_Text_isWordSign_33 Q a0 σ) ∧ (¬ a0 < 65 → ((90 < a0 → w_Text_isWordSign_33 Q a0 σ) ∧ (¬ 90 < a0 → Q (.inl (some (.int 1))) σ))))
def wp_Text_isWordSign (Q : xO → xS → Prop) (σ : xS) (a0 : Int32) : Prop :=
  wp_Text_isDigit (xqi (fun r2 u1 => ((¬ r2 = 0 → Q (.inl (some (.int 1))) u1) ∧ (r2 = 0 → ((a0 < 97 → w_Text_isWordSign_19 Q a0 u1) ∧ (¬ a0 < 97 → ((a0 ≤ 122 → Q (.inl (some (.int 1))) u1) ∧ (¬ a0 ≤ 122 → w_Text_isWordSign_19 Q a0 u1))))))) (fun n u => Q (.inr n) u)) σ a0
set_option maxRecDepth 20000 in
theorem sw_Text_isWordSign_33 {γ : xG1} {d b0 : Nat} {Q : xO → xS → Prop} {a0 : Int32} {σ : xS} (h : w_Text_isWordSign_33 Q a0 σ) : xJ (SHP, γ) Y_Text_isWordSign (d + 4) b0 33 [(0, .int a0)] [] σ Q := by
  refine xJ.iload_n (o_Text_isWordSign 17 rfl) rfl ?_
  refine xJ.if_le (tgt := 51) (o_Text_isWordSign 18 rfl) (by decide) (fun z => ?_) (fun z => ?_)
  · replace h := h.1 z
    refine xJ.iconst (v := 0) (o_Text_isWordSign 26 rfl) (by decide) ?_
    exact xJ.zreturn (o_Text_isWordSign 27 rfl) rfl (Or.inl rfl) h
  · replace h := h.2 z
    refine xJ.ldcS (i := 1) (o_Text_isWordSign 19 rfl) t_Text_86 ?_
    refine xJ.iload_n (o_Text_isWordSign 20 rfl) rfl ?_
    refine xJ.i2c (o_Text_isWordSign 21 rfl) rfl ?_
    refine xJ.callX (Y' := Y_String_indexOf0) (o_Text_isWordSign 22 rfl) m_Text_88 y_String_indexOf0 im_String_indexOf0 se_String_indexOf0 rfl ⟨by decide, by decide⟩ (s_String_indexOf0_901 h) rfl rfl (Nat.le_of_ble_eq_true rfl) (fun _ hx => by cases hx) (fun v u q => ?_) (fun n u q => q)
    obtain ⟨r, rfl, h⟩ := xqi_get q
    refine xJ.if_lt (tgt := 51) (o_Text_isWordSign 23 rfl) (by decide) (fun z => ?_) (fun z => ?_)
    · replace h := h.1 z
      refine xJ.iconst (v := 0) (o_Text_isWordSign 26 rfl) (by decide) ?_
      exact xJ.zreturn (o_Text_isWordSign 27 rfl) rfl (Or.inl rfl) h
    · replace h := h.2 z
      refine xJ.iconst (v := 1) (o_Text_isWordSign 24 rfl) (by decide) ?_
      refine xJ.goto (tgt := 52) (o_Text_isWordSign 25 rfl) (by decide) ?_
      exact xJ.zreturn (o_Text_isWordSign 27 rfl) rfl (Or.inr rfl) h
set_option maxRecDepth 20000 in
theorem sw_Text_isWordSign_19 {γ : xG1} {d b0 : Nat} {Q : xO → xS → Prop} {a0 : Int32} {σ : xS} (h : w_Text_isWordSign_19 Q a0 σ) : xJ (SHP, γ) Y_Text_isWordSign (d + 4) b0 19 [(0, .int a0)] [] σ Q := by
  refine xJ.iload_n (o_Text_isWordSign 9 rfl) rfl ?_
  refine xJ.bipush (v := 65) (o_Text_isWordSign 10 rfl) (by decide) ?_
  refine xJ.icmp_lt (tgt := 33) (o_Text_isWordSign 11 rfl) (by decide) (fun z => ?_) (fun z => ?_)
  · replace h := h.1 z
    exact xJ.lvs (by exact ⟨rfl, trivial⟩) (sw_Text_isWordSign_33 h)
  · replace h := h.2 z
    refine xJ.iload_n (o_Text_isWordSign 12 rfl) rfl ?_
    refine xJ.bipush (v := 90) (o_Text_isWordSign 13 rfl) (by decide) ?_
    refine xJ.icmp_gt (tgt := 33) (o_Text_isWordSign 14 rfl) (by decide) (fun z => ?_) (fun z => ?_)
    · replace h := h.1 z
      exact xJ.lvs (by exact ⟨rfl, trivial⟩) (sw_Text_isWordSign_33 h)
    · replace h := h.2 z
      refine xJ.iconst (v := 1) (o_Text_isWordSign 15 rfl) (by decide) ?_
      exact xJ.zreturn (o_Text_isWordSign 16 rfl) rfl (Or.inr rfl) h
set_option maxRecDepth 20000 in
theorem s_Text_isWordSign {γ : xG1} {d : Nat} {Q : xO → xS → Prop} {σ : xS} {a0 : Int32} (h : wp_Text_isWordSign Q σ a0) : xM (SHP, γ) Y_Text_isWordSign (d + 4) [.int a0] σ Q := by
  refine xM.of (by decide) (Nat.le_of_ble_eq_true rfl) ?_
  refine xJ.iload_n (o_Text_isWordSign 0 rfl) rfl ?_
  refine xJ.callS (Y' := Y_Text_isDigit) (o_Text_isWordSign 1 rfl) m_Text_83 y_Text_isDigit st_Text_isDigit (s_Text_isDigit h) rfl rfl (Nat.le_of_ble_eq_true rfl) (fun _ hx => by cases hx) (fun v u q => ?_) (fun n u q => q)
  obtain ⟨r, rfl, h⟩ := xqi_get q
  refine xJ.if_ne (tgt := 31) (o_Text_isWordSign 2 rfl) (by decide) (fun z => ?_) (fun z => ?_)
  · replace h := h.1 z
    refine xJ.iconst (v := 1) (o_Text_isWordSign 15 rfl) (by decide) ?_
    exact xJ.zreturn (o_Text_isWordSign 16 rfl) rfl (Or.inr rfl) h
  · replace h := h.2 z
    refine xJ.iload_n (o_Text_isWordSign 3 rfl) rfl ?_
    refine xJ.bipush (v := 97) (o_Text_isWordSign 4 rfl) (by decide) ?_
    refine xJ.icmp_lt (tgt := 19) (o_Text_isWordSign 5 rfl) (by decide) (fun z => ?_) (fun z => ?_)
    · replace h := h.1 z
      exact xJ.lvs (by exact ⟨rfl, trivial⟩) (sw_Text_isWordSign_19 h)
    · replace h := h.2 z
      refine xJ.iload_n (o_Text_isWordSign 6 rfl) rfl ?_
      refine xJ.bipush (v := 122) (o_Text_isWordSign 7 rfl) (by decide) ?_
      refine xJ.icmp_le (tgt := 31) (o_Text_isWordSign 8 rfl) (by decide) (fun z => ?_) (fun z => ?_)
      · replace h := h.1 z
        refine xJ.iconst (v := 1) (o_Text_isWordSign 15 rfl) (by decide) ?_
        exact xJ.zreturn (o_Text_isWordSign 16 rfl) rfl (Or.inr rfl) h
      · replace h := h.2 z
        exact xJ.lvs (by exact ⟨rfl, trivial⟩) (sw_Text_isWordSign_19 h)
def w_Text_cutPiece_133 (Q : xO → xS → Prop) (σ : xS) : Prop :=
  ((¬ (xi σ 1 11) = (xi σ 1 10) → wp_Text_kindOfWord (xqi (fun r3 u2 => Q (.inl (some (.int r3))) u2) (fun n u => Q (.inr n) u)) σ ) ∧ ((xi σ 1 11) = (xi σ 1 10) → Q (.inl (some (.int 17))) σ))
def w_Text_cutPiece_94 (Q : xO → xS → Prop) : Nat → xS → Prop
  | 0 => fun  _ => False
  | n + 1 => fun  σ =>
    (((xi σ 1 1) ≤ (xi σ 1 11) → w_Text_cutPiece_133 Q  σ) ∧ (¬ (xi σ 1 1) ≤ (xi σ 1 11) → (vp_in (xi σ 1 11) 65536 ∧ wp_Text_isWordSign (xqi (fun r5 u4 => ((r5 = 0 → w_Text_cutPiece_133 Q  u4) ∧ (¬ r5 = 0 → (∀ s6 : xS, s6 = xpi u4 1 11 ((xi u4 1 11) + 1) → w_Text_cutPiece_94 Q n  s6)))) (fun n u => Q (.inr n) u)) σ (xi σ 2 (xi σ 1 11).toNatClampNeg))))
def wp_Text_cutPiece (Q : xO → xS → Prop) (σ : xS)  : Prop :=
  (((xi σ 1 11) < (xi σ 1 1) → (vp_in (xi σ 1 11) 65536 ∧ (∀ x1 : Int32, x1 = (xi σ 2 (xi σ 1 11).toNatClampNeg) → ((¬ x1 = 40 → ((¬ x1 = 41 → ∃ m, w_Text_cutPiece_94 Q m  σ) ∧ (x1 = 41 → (∀ s7 : xS, s7 = xpi σ 1 7 ((xi σ 1 7) - 1) → (∀ s8 : xS, s8 = xpi s7 1 11 ((xi s7 1 11) + 1) → Q (.inl (some (.int 1))) s8))))) ∧ (x1 = 40 → (∀ s9 : xS, s9 = xpi σ 1 7 ((xi σ 1 7) + 1) → (∀ s10 : xS, s10 = xpi s9 1 11 ((xi s9 1 11) + 1) → (((xi s10 1 7) ≤ 60 → Q (.inl (some (.int 0))) s10) ∧ (¬ (xi s10 1 7) ≤ 60 → Q (.inl (some (.int 26))) s10))))))))) ∧ (¬ (xi σ 1 11) < (xi σ 1 1) → Q (.inl (some (.int 19))) σ))
set_option maxRecDepth 20000 in
theorem sw_Text_cutPiece_133 {γ : xG1} {d b0 : Nat} {Q : xO → xS → Prop} {σ : xS} (h : w_Text_cutPiece_133 Q  σ) : xJ (SHP, γ) Y_Text_cutPiece (d + 7) b0 133 [(0, .ref 1)] [] σ Q := by
  refine xJ.aload_n (o_Text_cutPiece 72 rfl) rfl ?_
  refine xJ.getfield (o_Text_cutPiece 73 rfl) f_Text_49 rfl rfl ?_
  refine xJ.aload_n (o_Text_cutPiece 74 rfl) rfl ?_
  refine xJ.getfield (o_Text_cutPiece 75 rfl) f_Text_58 rfl rfl ?_
  refine xJ.icmp_ne (tgt := 149) (o_Text_cutPiece 76 rfl) (by decide) (fun z => ?_) (fun z => ?_)
  · replace h := h.1 z
    refine xJ.aload_n (o_Text_cutPiece 79 rfl) rfl ?_
    refine xJ.callV (Y' := Y_Text_kindOfWord) (o_Text_cutPiece 80 rfl) m_Text_80 y_Text_kindOfWord im_Text_kindOfWord se_Text_kindOfWord rfl rfl (s_Text_kindOfWord h) rfl rfl (Nat.le_of_ble_eq_true rfl) (fun _ hx => by cases hx) (fun v u q => ?_) (fun n u q => q)
    obtain ⟨r, rfl, h⟩ := xqi_get q
    exact xJ.ireturn (o_Text_cutPiece 81 rfl) rfl h
  · replace h := h.2 z
    refine xJ.bipush (v := 17) (o_Text_cutPiece 77 rfl) (by decide) ?_
    refine xJ.goto (tgt := 153) (o_Text_cutPiece 78 rfl) (by decide) ?_
    exact xJ.ireturn (o_Text_cutPiece 81 rfl) rfl h
set_option maxRecDepth 20000 in
theorem sw_Text_cutPiece_94 {γ : xG1} {d b0 : Nat} {Q : xO → xS → Prop} : ∀ (n : Nat) (σ : xS), w_Text_cutPiece_94 Q n  σ → xJ (SHP, γ) Y_Text_cutPiece (d + 7) b0 94 [(0, .ref 1)] [] σ Q := by
  intro n
  induction n with
  | zero => intro  σ h; exact h.elim
  | succ n ih =>
    intro  σ h
    refine xJ.aload_n (o_Text_cutPiece 53 rfl) rfl ?_
    refine xJ.getfield (o_Text_cutPiece 54 rfl) f_Text_49 rfl rfl ?_
    refine xJ.aload_n (o_Text_cutPiece 55 rfl) rfl ?_
    refine xJ.getfield (o_Text_cutPiece 56 rfl) f_Text_41 rfl rfl ?_
    refine xJ.icmp_ge (tgt := 133) (o_Text_cutPiece 57 rfl) (by decide) (fun z => ?_) (fun z => ?_)
    · replace h := h.1 z
      exact xJ.lvs (by exact ⟨rfl, trivial⟩) (sw_Text_cutPiece_133 h)
    · replace h := h.2 z
      refine xJ.aload_n (o_Text_cutPiece 58 rfl) rfl ?_
      refine xJ.getfield (o_Text_cutPiece 59 rfl) f_Text_10 rfl rfl ?_
      refine xJ.aload_n (o_Text_cutPiece 60 rfl) rfl ?_
      refine xJ.getfield (o_Text_cutPiece 61 rfl) f_Text_49 rfl rfl ?_
      refine xJ.baload (o_Text_cutPiece 62 rfl) rfl h.1 ?_
      replace h := h.2
      refine xJ.callS (Y' := Y_Text_isWordSign) (o_Text_cutPiece 63 rfl) m_Text_76 y_Text_isWordSign st_Text_isWordSign (s_Text_isWordSign h) rfl rfl (Nat.le_of_ble_eq_true rfl) (fun _ hx => by cases hx) (fun v u q => ?_) (fun n u q => q)
      obtain ⟨r, rfl, h⟩ := xqi_get q
      refine xJ.if_eq (tgt := 133) (o_Text_cutPiece 64 rfl) (by decide) (fun z => ?_) (fun z => ?_)
      · replace h := h.1 z
        exact xJ.lvs (by exact ⟨rfl, trivial⟩) (sw_Text_cutPiece_133 h)
      · replace h := h.2 z
        refine xJ.aload_n (o_Text_cutPiece 65 rfl) rfl ?_
        refine xJ.dup (o_Text_cutPiece 66 rfl) rfl ?_
        refine xJ.getfield (o_Text_cutPiece 67 rfl) f_Text_49 rfl rfl ?_
        refine xJ.iconst (v := 1) (o_Text_cutPiece 68 rfl) (by decide) ?_
        refine xJ.iadd (o_Text_cutPiece 69 rfl) ?_
        refine xJ.putI (o_Text_cutPiece 70 rfl) f_Text_49 rfl rfl rfl ?_
        replace h := h _ rfl
        refine xJ.goto (tgt := 94) (o_Text_cutPiece 71 rfl) (by decide) ?_
        exact xJ.lvs (by exact ⟨rfl, trivial⟩) (ih  _ h)
set_option maxRecDepth 20000 in
theorem s_Text_cutPiece {γ : xG1} {d : Nat} {Q : xO → xS → Prop} {σ : xS}  (h : wp_Text_cutPiece Q σ ) : xM (SHP, γ) Y_Text_cutPiece (d + 7) [.ref 1] σ Q := by
  refine xM.of (by decide) (Nat.le_of_ble_eq_true rfl) ?_
  refine xJ.aload_n (o_Text_cutPiece 0 rfl) rfl ?_
  refine xJ.getfield (o_Text_cutPiece 1 rfl) f_Text_49 rfl rfl ?_
  refine xJ.aload_n (o_Text_cutPiece 2 rfl) rfl ?_
  refine xJ.getfield (o_Text_cutPiece 3 rfl) f_Text_41 rfl rfl ?_
  refine xJ.icmp_lt (tgt := 14) (o_Text_cutPiece 4 rfl) (by decide) (fun z => ?_) (fun z => ?_)
  · replace h := h.1 z
    refine xJ.aload_n (o_Text_cutPiece 7 rfl) rfl ?_
    refine xJ.getfield (o_Text_cutPiece 8 rfl) f_Text_10 rfl rfl ?_
    refine xJ.aload_n (o_Text_cutPiece 9 rfl) rfl ?_
    refine xJ.getfield (o_Text_cutPiece 10 rfl) f_Text_49 rfl rfl ?_
    refine xJ.baload (o_Text_cutPiece 11 rfl) rfl h.1 ?_
    replace h := h.2
    refine xJ.istore_n (o_Text_cutPiece 12 rfl) (by decide) ?_
    replace h := h _ rfl
    refine xJ.iload_n (o_Text_cutPiece 13 rfl) rfl ?_
    refine xJ.bipush (v := 40) (o_Text_cutPiece 14 rfl) (by decide) ?_
    refine xJ.icmp_ne (tgt := 66) (o_Text_cutPiece 15 rfl) (by decide) (fun z => ?_) (fun z => ?_)
    · replace h := h.1 z
      refine xJ.iload_n (o_Text_cutPiece 36 rfl) rfl ?_
      refine xJ.bipush (v := 41) (o_Text_cutPiece 37 rfl) (by decide) ?_
      refine xJ.icmp_ne (tgt := 94) (o_Text_cutPiece 38 rfl) (by decide) (fun z => ?_) (fun z => ?_)
      · replace h := h.1 z
        obtain ⟨m, h⟩ := h
        exact xJ.lvs (by exact ⟨rfl, trivial⟩) (sw_Text_cutPiece_94 m  _ h)
      · replace h := h.2 z
        refine xJ.aload_n (o_Text_cutPiece 39 rfl) rfl ?_
        refine xJ.dup (o_Text_cutPiece 40 rfl) rfl ?_
        refine xJ.getfield (o_Text_cutPiece 41 rfl) f_Text_46 rfl rfl ?_
        refine xJ.iconst (v := 1) (o_Text_cutPiece 42 rfl) (by decide) ?_
        refine xJ.isub (o_Text_cutPiece 43 rfl) ?_
        refine xJ.putI (o_Text_cutPiece 44 rfl) f_Text_46 rfl rfl rfl ?_
        replace h := h _ rfl
        refine xJ.aload_n (o_Text_cutPiece 45 rfl) rfl ?_
        refine xJ.dup (o_Text_cutPiece 46 rfl) rfl ?_
        refine xJ.getfield (o_Text_cutPiece 47 rfl) f_Text_49 rfl rfl ?_
        refine xJ.iconst (v := 1) (o_Text_cutPiece 48 rfl) (by decide) ?_
        refine xJ.iadd (o_Text_cutPiece 49 rfl) ?_
        refine xJ.putI (o_Text_cutPiece 50 rfl) f_Text_49 rfl rfl rfl ?_
        replace h := h _ rfl
        refine xJ.iconst (v := 1) (o_Text_cutPiece 51 rfl) (by decide) ?_
        exact xJ.ireturn (o_Text_cutPiece 52 rfl) rfl h
    · replace h := h.2 z
      refine xJ.aload_n (o_Text_cutPiece 16 rfl) rfl ?_
      refine xJ.dup (o_Text_cutPiece 17 rfl) rfl ?_
      refine xJ.getfield (o_Text_cutPiece 18 rfl) f_Text_46 rfl rfl ?_
      refine xJ.iconst (v := 1) (o_Text_cutPiece 19 rfl) (by decide) ?_
      refine xJ.iadd (o_Text_cutPiece 20 rfl) ?_
      refine xJ.putI (o_Text_cutPiece 21 rfl) f_Text_46 rfl rfl rfl ?_
      replace h := h _ rfl
      refine xJ.aload_n (o_Text_cutPiece 22 rfl) rfl ?_
      refine xJ.dup (o_Text_cutPiece 23 rfl) rfl ?_
      refine xJ.getfield (o_Text_cutPiece 24 rfl) f_Text_49 rfl rfl ?_
      refine xJ.iconst (v := 1) (o_Text_cutPiece 25 rfl) (by decide) ?_
      refine xJ.iadd (o_Text_cutPiece 26 rfl) ?_
      refine xJ.putI (o_Text_cutPiece 27 rfl) f_Text_49 rfl rfl rfl ?_
      replace h := h _ rfl
      refine xJ.aload_n (o_Text_cutPiece 28 rfl) rfl ?_
      refine xJ.getfield (o_Text_cutPiece 29 rfl) f_Text_46 rfl rfl ?_
      refine xJ.bipush (v := 60) (o_Text_cutPiece 30 rfl) (by decide) ?_
      refine xJ.icmp_le (tgt := 64) (o_Text_cutPiece 31 rfl) (by decide) (fun z => ?_) (fun z => ?_)
      · replace h := h.1 z
        refine xJ.iconst (v := 0) (o_Text_cutPiece 34 rfl) (by decide) ?_
        exact xJ.ireturn (o_Text_cutPiece 35 rfl) rfl h
      · replace h := h.2 z
        refine xJ.bipush (v := 26) (o_Text_cutPiece 32 rfl) (by decide) ?_
        refine xJ.goto (tgt := 65) (o_Text_cutPiece 33 rfl) (by decide) ?_
        exact xJ.ireturn (o_Text_cutPiece 35 rfl) rfl h
  · replace h := h.2 z
    refine xJ.bipush (v := 19) (o_Text_cutPiece 5 rfl) (by decide) ?_
    exact xJ.ireturn (o_Text_cutPiece 6 rfl) rfl h
def w_Text_skipBlanks_68 (Q : xO → xS → Prop) (K2 : Int32 → xS → Prop) (a1 : Int32) (σ : xS) : Prop :=
  (∀ s2 : xS, s2 = xpi σ 1 11 ((xi σ 1 11) + 1) → K2 a1 s2)
def w_Text_skipBlanks_2 (Q : xO → xS → Prop) : Nat → Int32 → xS → Prop
  | 0 => fun _ _ => False
  | n + 1 => fun a1 σ =>
    (((xi σ 1 1) ≤ (xi σ 1 11) → Q (.inl none) σ) ∧ (¬ (xi σ 1 1) ≤ (xi σ 1 11) → (vp_in (xi σ 1 11) 65536 ∧ (∀ x1 : Int32, x1 = (xi σ 2 (xi σ 1 11).toNatClampNeg) → ((¬ x1 = 10 → ((¬ x1 = 59 → ((¬ a1 = 0 → w_Text_skipBlanks_68 Q (w_Text_skipBlanks_2 Q n) a1 σ) ∧ (a1 = 0 → ((x1 = 9 → w_Text_skipBlanks_68 Q (w_Text_skipBlanks_2 Q n) a1 σ) ∧ (¬ x1 = 9 → ((x1 = 13 → w_Text_skipBlanks_68 Q (w_Text_skipBlanks_2 Q n) a1 σ) ∧ (¬ x1 = 13 → ((x1 = 32 → w_Text_skipBlanks_68 Q (w_Text_skipBlanks_2 Q n) a1 σ) ∧ (¬ x1 = 32 → Q (.inl none) σ))))))))) ∧ (x1 = 59 → w_Text_skipBlanks_68 Q (w_Text_skipBlanks_2 Q n) 1 σ))) ∧ (x1 = 10 → w_Text_skipBlanks_68 Q (w_Text_skipBlanks_2 Q n) 0 σ))))))
def wp_Text_skipBlanks (Q : xO → xS → Prop) (σ : xS)  : Prop :=
  ∃ m, w_Text_skipBlanks_2 Q m 0 σ
set_option maxRecDepth 20000 in
theorem sw_Text_skipBlanks_68 {γ : xG1} {d b0 : Nat} {Q : xO → xS → Prop} {K2 : Int32 → xS → Prop} (hK2 : ∀ a1 σ, K2 a1 σ → xJ (SHP, γ) Y_Text_skipBlanks (d + 0) b0 2 [(0, .ref 1), (1, .int a1)] [] σ Q) {a1 : Int32} {σ : xS} (h : w_Text_skipBlanks_68 Q K2 a1 σ) : xJ (SHP, γ) Y_Text_skipBlanks (d + 0) b0 68 [(0, .ref 1), (1, .int a1)] [] σ Q := by
  refine xJ.aload_n (o_Text_skipBlanks 37 rfl) rfl ?_
  refine xJ.dup (o_Text_skipBlanks 38 rfl) rfl ?_
  refine xJ.getfield (o_Text_skipBlanks 39 rfl) f_Text_49 rfl rfl ?_
  refine xJ.iconst (v := 1) (o_Text_skipBlanks 40 rfl) (by decide) ?_
  refine xJ.iadd (o_Text_skipBlanks 41 rfl) ?_
  refine xJ.putI (o_Text_skipBlanks 42 rfl) f_Text_49 rfl rfl rfl ?_
  replace h := h _ rfl
  refine xJ.goto (tgt := 2) (o_Text_skipBlanks 43 rfl) (by decide) ?_
  exact xJ.lvs (by exact ⟨rfl, rfl, trivial⟩) (hK2 _ _ h)
set_option maxRecDepth 20000 in
theorem sw_Text_skipBlanks_2 {γ : xG1} {d b0 : Nat} {Q : xO → xS → Prop} : ∀ (n : Nat) (a1 : Int32) (σ : xS), w_Text_skipBlanks_2 Q n a1 σ → xJ (SHP, γ) Y_Text_skipBlanks (d + 0) b0 2 [(0, .ref 1), (1, .int a1)] [] σ Q := by
  intro n
  induction n with
  | zero => intro a1 σ h; exact h.elim
  | succ n ih =>
    intro a1 σ h
    refine xJ.aload_n (o_Text_skipBlanks 2 rfl) rfl ?_
    refine xJ.getfield (o_Text_skipBlanks 3 rfl) f_Text_49 rfl rfl ?_
    refine xJ.aload_n (o_Text_skipBlanks 4 rfl) rfl ?_
    refine xJ.getfield (o_Text_skipBlanks 5 rfl) f_Text_41 rfl rfl ?_
    refine xJ.icmp_ge (tgt := 81) (o_Text_skipBlanks 6 rfl) (by decide) (fun z => ?_) (fun z => ?_)
    · replace h := h.1 z
      exact xJ.return_ (o_Text_skipBlanks 44 rfl) rfl h
    · replace h := h.2 z
      refine xJ.aload_n (o_Text_skipBlanks 7 rfl) rfl ?_
      refine xJ.getfield (o_Text_skipBlanks 8 rfl) f_Text_10 rfl rfl ?_
      refine xJ.aload_n (o_Text_skipBlanks 9 rfl) rfl ?_
      refine xJ.getfield (o_Text_skipBlanks 10 rfl) f_Text_49 rfl rfl ?_
      refine xJ.baload (o_Text_skipBlanks 11 rfl) rfl h.1 ?_
      replace h := h.2
      refine xJ.istore_n (o_Text_skipBlanks 12 rfl) (by decide) ?_
      replace h := h _ rfl
      refine xJ.iload_n (o_Text_skipBlanks 13 rfl) rfl ?_
      refine xJ.bipush (v := 10) (o_Text_skipBlanks 14 rfl) (by decide) ?_
      refine xJ.icmp_ne (tgt := 34) (o_Text_skipBlanks 15 rfl) (by decide) (fun z => ?_) (fun z => ?_)
      · replace h := h.1 z
        refine xJ.iload_n (o_Text_skipBlanks 19 rfl) rfl ?_
        refine xJ.bipush (v := 59) (o_Text_skipBlanks 20 rfl) (by decide) ?_
        refine xJ.icmp_ne (tgt := 45) (o_Text_skipBlanks 21 rfl) (by decide) (fun z => ?_) (fun z => ?_)
        · replace h := h.1 z
          refine xJ.iload_n (o_Text_skipBlanks 25 rfl) rfl ?_
          refine xJ.if_ne (tgt := 68) (o_Text_skipBlanks 26 rfl) (by decide) (fun z => ?_) (fun z => ?_)
          · replace h := h.1 z
            exact xJ.lvs (by exact ⟨rfl, rfl, trivial⟩) (sw_Text_skipBlanks_68 ih h)
          · replace h := h.2 z
            refine xJ.iload_n (o_Text_skipBlanks 27 rfl) rfl ?_
            refine xJ.bipush (v := 9) (o_Text_skipBlanks 28 rfl) (by decide) ?_
            refine xJ.icmp_eq (tgt := 68) (o_Text_skipBlanks 29 rfl) (by decide) (fun z => ?_) (fun z => ?_)
            · replace h := h.1 z
              exact xJ.lvs (by exact ⟨rfl, rfl, trivial⟩) (sw_Text_skipBlanks_68 ih h)
            · replace h := h.2 z
              refine xJ.iload_n (o_Text_skipBlanks 30 rfl) rfl ?_
              refine xJ.bipush (v := 13) (o_Text_skipBlanks 31 rfl) (by decide) ?_
              refine xJ.icmp_eq (tgt := 68) (o_Text_skipBlanks 32 rfl) (by decide) (fun z => ?_) (fun z => ?_)
              · replace h := h.1 z
                exact xJ.lvs (by exact ⟨rfl, rfl, trivial⟩) (sw_Text_skipBlanks_68 ih h)
              · replace h := h.2 z
                refine xJ.iload_n (o_Text_skipBlanks 33 rfl) rfl ?_
                refine xJ.bipush (v := 32) (o_Text_skipBlanks 34 rfl) (by decide) ?_
                refine xJ.icmp_eq (tgt := 68) (o_Text_skipBlanks 35 rfl) (by decide) (fun z => ?_) (fun z => ?_)
                · replace h := h.1 z
                  exact xJ.lvs (by exact ⟨rfl, rfl, trivial⟩) (sw_Text_skipBlanks_68 ih h)
                · replace h := h.2 z
                  exact xJ.return_ (o_Text_skipBlanks 36 rfl) rfl h
        · replace h := h.2 z
          refine xJ.iconst (v := 1) (o_Text_skipBlanks 22 rfl) (by decide) ?_
          refine xJ.istore_n (o_Text_skipBlanks 23 rfl) (by decide) ?_
          refine xJ.goto (tgt := 68) (o_Text_skipBlanks 24 rfl) (by decide) ?_
          exact xJ.lvs (by exact ⟨rfl, rfl, trivial⟩) (sw_Text_skipBlanks_68 ih h)
      · replace h := h.2 z
        refine xJ.iconst (v := 0) (o_Text_skipBlanks 16 rfl) (by decide) ?_
        refine xJ.istore_n (o_Text_skipBlanks 17 rfl) (by decide) ?_
        refine xJ.goto (tgt := 68) (o_Text_skipBlanks 18 rfl) (by decide) ?_
        exact xJ.lvs (by exact ⟨rfl, rfl, trivial⟩) (sw_Text_skipBlanks_68 ih h)
set_option maxRecDepth 20000 in
theorem s_Text_skipBlanks {γ : xG1} {d : Nat} {Q : xO → xS → Prop} {σ : xS}  (h : wp_Text_skipBlanks Q σ ) : xM (SHP, γ) Y_Text_skipBlanks (d + 0) [.ref 1] σ Q := by
  refine xM.of (by decide) (Nat.le_of_ble_eq_true rfl) ?_
  refine xJ.iconst (v := 0) (o_Text_skipBlanks 0 rfl) (by decide) ?_
  refine xJ.istore_n (o_Text_skipBlanks 1 rfl) (by decide) ?_
  obtain ⟨m, h⟩ := h
  exact xJ.lvs (by exact ⟨rfl, rfl, trivial⟩) (sw_Text_skipBlanks_2 m _ _ h)
def w_Text_split_72 (Q : xO → xS → Prop) (σ : xS) : Prop :=
  (∀ s5 : xS, s5 = xpi σ 1 6 0 → (∀ s6 : xS, s6 = xpi s5 1 2 0 → (∀ s7 : xS, s7 = xpi s6 1 3 (-1) → Q (.inl none) s7)))
def w_Text_split_20 (Q : xO → xS → Prop) : Nat → xS → Prop
  | 0 => fun  _ => False
  | n + 1 => fun  σ =>
    (((xi σ 1 1) < (xi σ 1 5) → w_Text_split_72 Q  σ) ∧ (¬ (xi σ 1 1) < (xi σ 1 5) → ((16 ≤ (xi σ 1 9) → w_Text_split_72 Q  σ) ∧ (¬ 16 ≤ (xi σ 1 9) → wp_Text_skipBlanks (xqv (fun u8 => (∀ s10 : xS, s10 = xpi u8 1 10 (xi u8 1 11) → (∀ s11 : xS, s11 = xpi s10 1 12 (-1) → wp_Text_cutPiece (xqi (fun r13 u12 => (∀ s14 : xS, s14 = xpi u12 1 9 r13 → wp_Text_keepPiece (xqv (fun u15 => w_Text_split_20 Q n  u15) (fun n u => Q (.inr n) u)) s14 )) (fun n u => Q (.inr n) u)) s11 ))) (fun n u => Q (.inr n) u)) σ ))))
def wp_Text_split (Q : xO → xS → Prop) (σ : xS)  : Prop :=
  (∀ s1 : xS, s1 = xpi σ 1 5 0 → (∀ s2 : xS, s2 = xpi s1 1 7 0 → (∀ s3 : xS, s3 = xpi s2 1 11 0 → (∀ s4 : xS, s4 = xpi s3 1 9 0 → ∃ m, w_Text_split_20 Q m  s4))))
set_option maxRecDepth 20000 in
theorem sw_Text_split_72 {γ : xG1} {d b0 : Nat} {Q : xO → xS → Prop} {σ : xS} (h : w_Text_split_72 Q  σ) : xJ (SHP, γ) Y_Text_split (d + 8) b0 72 [(0, .ref 1)] [] σ Q := by
  refine xJ.aload_n (o_Text_split 37 rfl) rfl ?_
  refine xJ.iconst (v := 0) (o_Text_split 38 rfl) (by decide) ?_
  refine xJ.putI (o_Text_split 39 rfl) f_Text_70 rfl rfl rfl ?_
  replace h := h _ rfl
  refine xJ.aload_n (o_Text_split 40 rfl) rfl ?_
  refine xJ.iconst (v := 0) (o_Text_split 41 rfl) (by decide) ?_
  refine xJ.putI (o_Text_split 42 rfl) f_Text_73 rfl rfl rfl ?_
  replace h := h _ rfl
  refine xJ.aload_n (o_Text_split 43 rfl) rfl ?_
  refine xJ.iconst (v := (-1)) (o_Text_split 44 rfl) (by decide) ?_
  refine xJ.putI (o_Text_split 45 rfl) f_Text_16 rfl rfl rfl ?_
  replace h := h _ rfl
  exact xJ.return_ (o_Text_split 46 rfl) rfl h
set_option maxRecDepth 20000 in
theorem sw_Text_split_20 {γ : xG1} {d b0 : Nat} {Q : xO → xS → Prop} : ∀ (n : Nat) (σ : xS), w_Text_split_20 Q n  σ → xJ (SHP, γ) Y_Text_split (d + 8) b0 20 [(0, .ref 1)] [] σ Q := by
  intro n
  induction n with
  | zero => intro  σ h; exact h.elim
  | succ n ih =>
    intro  σ h
    refine xJ.aload_n (o_Text_split 12 rfl) rfl ?_
    refine xJ.getfield (o_Text_split 13 rfl) f_Text_43 rfl rfl ?_
    refine xJ.aload_n (o_Text_split 14 rfl) rfl ?_
    refine xJ.getfield (o_Text_split 15 rfl) f_Text_41 rfl rfl ?_
    refine xJ.icmp_gt (tgt := 72) (o_Text_split 16 rfl) (by decide) (fun z => ?_) (fun z => ?_)
    · replace h := h.1 z
      exact xJ.lvs (by exact ⟨rfl, trivial⟩) (sw_Text_split_72 h)
    · replace h := h.2 z
      refine xJ.aload_n (o_Text_split 17 rfl) rfl ?_
      refine xJ.getfield (o_Text_split 18 rfl) f_Text_52 rfl rfl ?_
      refine xJ.bipush (v := 16) (o_Text_split 19 rfl) (by decide) ?_
      refine xJ.icmp_ge (tgt := 72) (o_Text_split 20 rfl) (by decide) (fun z => ?_) (fun z => ?_)
      · replace h := h.1 z
        exact xJ.lvs (by exact ⟨rfl, trivial⟩) (sw_Text_split_72 h)
      · replace h := h.2 z
        refine xJ.aload_n (o_Text_split 21 rfl) rfl ?_
        refine xJ.callV (Y' := Y_Text_skipBlanks) (o_Text_split 22 rfl) m_Text_55 y_Text_skipBlanks im_Text_skipBlanks se_Text_skipBlanks rfl rfl (s_Text_skipBlanks h) rfl rfl (Nat.le_of_ble_eq_true rfl) (fun _ hx => by cases hx) (fun v u q => ?_) (fun n u q => q)
        obtain ⟨rfl, h⟩ := xqv_get q
        refine xJ.aload_n (o_Text_split 23 rfl) rfl ?_
        refine xJ.aload_n (o_Text_split 24 rfl) rfl ?_
        refine xJ.getfield (o_Text_split 25 rfl) f_Text_49 rfl rfl ?_
        refine xJ.putI (o_Text_split 26 rfl) f_Text_58 rfl rfl rfl ?_
        replace h := h _ rfl
        refine xJ.aload_n (o_Text_split 27 rfl) rfl ?_
        refine xJ.iconst (v := (-1)) (o_Text_split 28 rfl) (by decide) ?_
        refine xJ.putI (o_Text_split 29 rfl) f_Text_61 rfl rfl rfl ?_
        replace h := h _ rfl
        refine xJ.aload_n (o_Text_split 30 rfl) rfl ?_
        refine xJ.aload_n (o_Text_split 31 rfl) rfl ?_
        refine xJ.callV (Y' := Y_Text_cutPiece) (o_Text_split 32 rfl) m_Text_64 y_Text_cutPiece im_Text_cutPiece se_Text_cutPiece rfl rfl (s_Text_cutPiece h) rfl rfl (Nat.le_of_ble_eq_true rfl) (fun _ hx => by cases hx) (fun v u q => ?_) (fun n u q => q)
        obtain ⟨r, rfl, h⟩ := xqi_get q
        refine xJ.putI (o_Text_split 33 rfl) f_Text_52 rfl rfl rfl ?_
        replace h := h _ rfl
        refine xJ.aload_n (o_Text_split 34 rfl) rfl ?_
        refine xJ.callV (Y' := Y_Text_keepPiece) (o_Text_split 35 rfl) m_Text_67 y_Text_keepPiece im_Text_keepPiece se_Text_keepPiece rfl rfl (s_Text_keepPiece h) rfl rfl (Nat.le_of_ble_eq_true rfl) (fun _ hx => by cases hx) (fun v u q => ?_) (fun n u q => q)
        obtain ⟨rfl, h⟩ := xqv_get q
        refine xJ.goto (tgt := 20) (o_Text_split 36 rfl) (by decide) ?_
        exact xJ.lvs (by exact ⟨rfl, trivial⟩) (ih  _ h)
set_option maxRecDepth 20000 in
theorem s_Text_split {γ : xG1} {d : Nat} {Q : xO → xS → Prop} {σ : xS}  (h : wp_Text_split Q σ ) : xM (SHP, γ) Y_Text_split (d + 8) [.ref 1] σ Q := by
  refine xM.of (by decide) (Nat.le_of_ble_eq_true rfl) ?_
  refine xJ.aload_n (o_Text_split 0 rfl) rfl ?_
  refine xJ.iconst (v := 0) (o_Text_split 1 rfl) (by decide) ?_
  refine xJ.putI (o_Text_split 2 rfl) f_Text_43 rfl rfl rfl ?_
  replace h := h _ rfl
  refine xJ.aload_n (o_Text_split 3 rfl) rfl ?_
  refine xJ.iconst (v := 0) (o_Text_split 4 rfl) (by decide) ?_
  refine xJ.putI (o_Text_split 5 rfl) f_Text_46 rfl rfl rfl ?_
  replace h := h _ rfl
  refine xJ.aload_n (o_Text_split 6 rfl) rfl ?_
  refine xJ.iconst (v := 0) (o_Text_split 7 rfl) (by decide) ?_
  refine xJ.putI (o_Text_split 8 rfl) f_Text_49 rfl rfl rfl ?_
  replace h := h _ rfl
  refine xJ.aload_n (o_Text_split 9 rfl) rfl ?_
  refine xJ.iconst (v := 0) (o_Text_split 10 rfl) (by decide) ?_
  refine xJ.putI (o_Text_split 11 rfl) f_Text_52 rfl rfl rfl ?_
  replace h := h _ rfl
  obtain ⟨m, h⟩ := h
  exact xJ.lvs (by exact ⟨rfl, trivial⟩) (sw_Text_split_20 m  _ h)
def wp_Text_isOver (Q : xO → xS → Prop) (σ : xS)  : Prop :=
  (vp_in (xi σ 1 6) 65537 ∧ ((¬ (((jlshr (xl σ 3 (xi σ 1 6).toNatClampNeg) 40).toInt32) &&& 255) = 19 → Q (.inl (some (.int 0))) σ) ∧ ((((jlshr (xl σ 3 (xi σ 1 6).toNatClampNeg) 40).toInt32) &&& 255) = 19 → Q (.inl (some (.int 1))) σ)))
set_option maxRecDepth 20000 in
theorem s_Text_isOver {γ : xG1} {d : Nat} {Q : xO → xS → Prop} {σ : xS}  (h : wp_Text_isOver Q σ ) : xM (SHP, γ) Y_Text_isOver (d + 0) [.ref 1] σ Q := by
  refine xM.of (by decide) (Nat.le_of_ble_eq_true rfl) ?_
  refine xJ.aload_n (o_Text_isOver 0 rfl) rfl ?_
  refine xJ.getfield (o_Text_isOver 1 rfl) f_Text_21 rfl rfl ?_
  refine xJ.aload_n (o_Text_isOver 2 rfl) rfl ?_
  refine xJ.getfield (o_Text_isOver 3 rfl) f_Text_70 rfl rfl ?_
  refine xJ.laload (o_Text_isOver 4 rfl) rfl h.1 ?_
  replace h := h.2
  refine xJ.bipush (v := 40) (o_Text_isOver 5 rfl) (by decide) ?_
  refine xJ.lshr (o_Text_isOver 6 rfl) rfl ?_
  refine xJ.l2i (o_Text_isOver 7 rfl) rfl ?_
  refine xJ.sipush (v := 255) (o_Text_isOver 8 rfl) (by decide) ?_
  refine xJ.iand (o_Text_isOver 9 rfl) ?_
  refine xJ.bipush (v := 19) (o_Text_isOver 10 rfl) (by decide) ?_
  refine xJ.icmp_ne (tgt := 26) (o_Text_isOver 11 rfl) (by decide) (fun z => ?_) (fun z => ?_)
  · replace h := h.1 z
    refine xJ.iconst (v := 0) (o_Text_isOver 14 rfl) (by decide) ?_
    exact xJ.zreturn (o_Text_isOver 15 rfl) rfl (Or.inl rfl) h
  · replace h := h.2 z
    refine xJ.iconst (v := 1) (o_Text_isOver 12 rfl) (by decide) ?_
    refine xJ.goto (tgt := 27) (o_Text_isOver 13 rfl) (by decide) ?_
    exact xJ.zreturn (o_Text_isOver 15 rfl) rfl (Or.inr rfl) h
def wp_Text_next (Q : xO → xS → Prop) (σ : xS)  : Prop :=
  (vp_in (xi σ 1 6) 65537 ∧ (∀ x1 : Int64, x1 = (xl σ 3 (xi σ 1 6).toNatClampNeg) → (∀ s2 : xS, s2 = xpi σ 1 10 (x1.toInt32 &&& 1048575) → (∀ s3 : xS, s3 = xpi s2 1 11 (((jlshr x1 20).toInt32) &&& 1048575) → (∀ s4 : xS, s4 = xpi s3 1 9 (((jlshr x1 40).toInt32) &&& 255) → (∀ s5 : xS, s5 = xpi s4 1 12 ((((jlshr x1 48).toInt32) &&& 255) - 1) → ((((xi s5 1 5) - 1) ≤ (xi s5 1 6) → Q (.inl none) s5) ∧ (¬ ((xi s5 1 5) - 1) ≤ (xi s5 1 6) → (∀ s6 : xS, s6 = xpi s5 1 6 ((xi s5 1 6) + 1) → Q (.inl none) s6)))))))))
set_option maxRecDepth 20000 in
theorem s_Text_next {γ : xG1} {d : Nat} {Q : xO → xS → Prop} {σ : xS}  (h : wp_Text_next Q σ ) : xM (SHP, γ) Y_Text_next (d + 0) [.ref 1] σ Q := by
  refine xM.of (by decide) (Nat.le_of_ble_eq_true rfl) ?_
  refine xJ.aload_n (o_Text_next 0 rfl) rfl ?_
  refine xJ.getfield (o_Text_next 1 rfl) f_Text_21 rfl rfl ?_
  refine xJ.aload_n (o_Text_next 2 rfl) rfl ?_
  refine xJ.getfield (o_Text_next 3 rfl) f_Text_70 rfl rfl ?_
  refine xJ.laload (o_Text_next 4 rfl) rfl h.1 ?_
  replace h := h.2
  refine xJ.lstore_n (o_Text_next 5 rfl) (by decide) ?_
  replace h := h _ rfl
  refine xJ.aload_n (o_Text_next 6 rfl) rfl ?_
  refine xJ.lload_n (o_Text_next 7 rfl) rfl ?_
  refine xJ.l2i (o_Text_next 8 rfl) rfl ?_
  refine xJ.ldc (v := 1048575) (o_Text_next 9 rfl) k_Text_105 ?_
  refine xJ.iand (o_Text_next 10 rfl) ?_
  refine xJ.putI (o_Text_next 11 rfl) f_Text_58 rfl rfl rfl ?_
  replace h := h _ rfl
  refine xJ.aload_n (o_Text_next 12 rfl) rfl ?_
  refine xJ.lload_n (o_Text_next 13 rfl) rfl ?_
  refine xJ.bipush (v := 20) (o_Text_next 14 rfl) (by decide) ?_
  refine xJ.lshr (o_Text_next 15 rfl) rfl ?_
  refine xJ.l2i (o_Text_next 16 rfl) rfl ?_
  refine xJ.ldc (v := 1048575) (o_Text_next 17 rfl) k_Text_105 ?_
  refine xJ.iand (o_Text_next 18 rfl) ?_
  refine xJ.putI (o_Text_next 19 rfl) f_Text_49 rfl rfl rfl ?_
  replace h := h _ rfl
  refine xJ.aload_n (o_Text_next 20 rfl) rfl ?_
  refine xJ.lload_n (o_Text_next 21 rfl) rfl ?_
  refine xJ.bipush (v := 40) (o_Text_next 22 rfl) (by decide) ?_
  refine xJ.lshr (o_Text_next 23 rfl) rfl ?_
  refine xJ.l2i (o_Text_next 24 rfl) rfl ?_
  refine xJ.sipush (v := 255) (o_Text_next 25 rfl) (by decide) ?_
  refine xJ.iand (o_Text_next 26 rfl) ?_
  refine xJ.putI (o_Text_next 27 rfl) f_Text_52 rfl rfl rfl ?_
  replace h := h _ rfl
  refine xJ.aload_n (o_Text_next 28 rfl) rfl ?_
  refine xJ.lload_n (o_Text_next 29 rfl) rfl ?_
  refine xJ.bipush (v := 48) (o_Text_next 30 rfl) (by decide) ?_
  refine xJ.lshr (o_Text_next 31 rfl) rfl ?_
  refine xJ.l2i (o_Text_next 32 rfl) rfl ?_
  refine xJ.sipush (v := 255) (o_Text_next 33 rfl) (by decide) ?_
  refine xJ.iand (o_Text_next 34 rfl) ?_
  refine xJ.iconst (v := 1) (o_Text_next 35 rfl) (by decide) ?_
  refine xJ.isub (o_Text_next 36 rfl) ?_
  refine xJ.putI (o_Text_next 37 rfl) f_Text_61 rfl rfl rfl ?_
  replace h := h _ rfl
  refine xJ.aload_n (o_Text_next 38 rfl) rfl ?_
  refine xJ.getfield (o_Text_next 39 rfl) f_Text_70 rfl rfl ?_
  refine xJ.aload_n (o_Text_next 40 rfl) rfl ?_
  refine xJ.getfield (o_Text_next 41 rfl) f_Text_43 rfl rfl ?_
  refine xJ.iconst (v := 1) (o_Text_next 42 rfl) (by decide) ?_
  refine xJ.isub (o_Text_next 43 rfl) ?_
  refine xJ.icmp_ge (tgt := 82) (o_Text_next 44 rfl) (by decide) (fun z => ?_) (fun z => ?_)
  · replace h := h.1 z
    exact xJ.return_ (o_Text_next 51 rfl) rfl h
  · replace h := h.2 z
    refine xJ.aload_n (o_Text_next 45 rfl) rfl ?_
    refine xJ.dup (o_Text_next 46 rfl) rfl ?_
    refine xJ.getfield (o_Text_next 47 rfl) f_Text_70 rfl rfl ?_
    refine xJ.iconst (v := 1) (o_Text_next 48 rfl) (by decide) ?_
    refine xJ.iadd (o_Text_next 49 rfl) ?_
    refine xJ.putI (o_Text_next 50 rfl) f_Text_70 rfl rfl rfl ?_
    replace h := h _ rfl
    exact xJ.return_ (o_Text_next 51 rfl) rfl h
def wp_Text_fail (Q : xO → xS → Prop) (σ : xS) (a1 : Int32) (a2 : Int32) : Prop :=
  (∀ s1 : xS, s1 = xpi σ 1 2 a1 → (∀ s2 : xS, s2 = xpi s1 1 3 a2 → (1 ≤ xb s2 ∧ Q (.inr 0) (xpb s2 (xb s2 - 1)))))
set_option maxRecDepth 20000 in
theorem s_Text_fail {γ : xG1} {d : Nat} {Q : xO → xS → Prop} {σ : xS} {a1 : Int32} {a2 : Int32} (h : wp_Text_fail Q σ a1 a2) : xM (SHP, γ) Y_Text_fail (d + 9) [.ref 1, .int a1, .int a2] σ Q := by
  refine xM.of (by decide) (Nat.le_of_ble_eq_true rfl) ?_
  refine xJ.aload_n (o_Text_fail 0 rfl) rfl ?_
  refine xJ.iload_n (o_Text_fail 1 rfl) rfl ?_
  refine xJ.putI (o_Text_fail 2 rfl) f_Text_73 rfl rfl rfl ?_
  replace h := h _ rfl
  refine xJ.aload_n (o_Text_fail 3 rfl) rfl ?_
  refine xJ.iload_n (o_Text_fail 4 rfl) rfl ?_
  refine xJ.putI (o_Text_fail 5 rfl) f_Text_16 rfl rfl rfl ?_
  replace h := h _ rfl
  exact xJ.throwNew (o_Text_fail 6 rfl) (o_Text_fail 7 rfl) (o_Text_fail 8 rfl) (o_Text_fail 9 rfl) (o_Text_fail 10 rfl) e_Text_106_108_110 h.1 (by omega) (Nat.le_of_ble_eq_true rfl) (fun _ hx => by cases hx) h.2
def w_Text_failHere_21 (Q : xO → xS → Prop) (t1 : Int32) (σ : xS) : Prop :=
  (∀ s1 : xS, s1 = xpi σ 1 2 t1 → (∀ s2 : xS, s2 = xpi s1 1 3 (xi s1 1 10) → (1 ≤ xb s2 ∧ Q (.inr 0) (xpb s2 (xb s2 - 1)))))
def wp_Text_failHere (Q : xO → xS → Prop) (σ : xS)  : Prop :=
  (((xi σ 1 9) < 16 → w_Text_failHere_21 Q 4 σ) ∧ (¬ (xi σ 1 9) < 16 → w_Text_failHere_21 Q ((xi σ 1 9) - 16) σ))
set_option maxRecDepth 20000 in
theorem sw_Text_failHere_21 {γ : xG1} {d b0 : Nat} {Q : xO → xS → Prop} {t1 : Int32} {σ : xS} (h : w_Text_failHere_21 Q t1 σ) : xJ (SHP, γ) Y_Text_failHere (d + 9) b0 21 [(0, .ref 1)] [.int t1, .ref 1] σ Q := by
  refine xJ.putI (o_Text_failHere 11 rfl) f_Text_73 rfl rfl rfl ?_
  replace h := h _ rfl
  refine xJ.aload_n (o_Text_failHere 12 rfl) rfl ?_
  refine xJ.aload_n (o_Text_failHere 13 rfl) rfl ?_
  refine xJ.getfield (o_Text_failHere 14 rfl) f_Text_58 rfl rfl ?_
  refine xJ.putI (o_Text_failHere 15 rfl) f_Text_16 rfl rfl rfl ?_
  replace h := h _ rfl
  exact xJ.throwNew (o_Text_failHere 16 rfl) (o_Text_failHere 17 rfl) (o_Text_failHere 18 rfl) (o_Text_failHere 19 rfl) (o_Text_failHere 20 rfl) e_Text_106_108_110 h.1 (by omega) (Nat.le_of_ble_eq_true rfl) (fun _ hx => by cases hx) h.2
set_option maxRecDepth 20000 in
theorem s_Text_failHere {γ : xG1} {d : Nat} {Q : xO → xS → Prop} {σ : xS}  (h : wp_Text_failHere Q σ ) : xM (SHP, γ) Y_Text_failHere (d + 9) [.ref 1] σ Q := by
  refine xM.of (by decide) (Nat.le_of_ble_eq_true rfl) ?_
  refine xJ.aload_n (o_Text_failHere 0 rfl) rfl ?_
  refine xJ.aload_n (o_Text_failHere 1 rfl) rfl ?_
  refine xJ.getfield (o_Text_failHere 2 rfl) f_Text_52 rfl rfl ?_
  refine xJ.bipush (v := 16) (o_Text_failHere 3 rfl) (by decide) ?_
  refine xJ.icmp_lt (tgt := 20) (o_Text_failHere 4 rfl) (by decide) (fun z => ?_) (fun z => ?_)
  · replace h := h.1 z
    refine xJ.iconst (v := 4) (o_Text_failHere 10 rfl) (by decide) ?_
    exact xJ.lvs (by exact ⟨rfl, trivial⟩) (sw_Text_failHere_21 h)
  · replace h := h.2 z
    refine xJ.aload_n (o_Text_failHere 5 rfl) rfl ?_
    refine xJ.getfield (o_Text_failHere 6 rfl) f_Text_52 rfl rfl ?_
    refine xJ.bipush (v := 16) (o_Text_failHere 7 rfl) (by decide) ?_
    refine xJ.isub (o_Text_failHere 8 rfl) ?_
    refine xJ.goto (tgt := 21) (o_Text_failHere 9 rfl) (by decide) ?_
    exact xJ.lvs (by exact ⟨rfl, trivial⟩) (sw_Text_failHere_21 h)
def w_Text_numeral_7 (Q : xO → xS → Prop) : Nat → Int64 → Int32 → xS → Prop
  | 0 => fun _ _ _ => False
  | n + 1 => fun a1 a3 σ =>
    (((xi σ 1 11) ≤ a3 → Q (.inl (some (.long a1))) σ) ∧ (¬ (xi σ 1 11) ≤ a3 → ((0 < (lg_cmp a1 2147483647) → Q (.inl (some (.long a1))) σ) ∧ (¬ 0 < (lg_cmp a1 2147483647) → (vp_in a3 65536 ∧ (∀ x2 : Int64, x2 = (((10 * a1) + ((xi σ 2 a3.toNatClampNeg).toInt64)) - 48) → (∀ x3 : Int32, x3 = a3 + 1 → w_Text_numeral_7 Q n x2 x3 σ)))))))
def wp_Text_numeral (Q : xO → xS → Prop) (σ : xS)  : Prop :=
  (∀ x1 : Int32, x1 = (xi σ 1 10) → ∃ m, w_Text_numeral_7 Q m 0 x1 σ)
set_option maxRecDepth 20000 in
theorem sw_Text_numeral_7 {γ : xG1} {d b0 : Nat} {Q : xO → xS → Prop} : ∀ (n : Nat) (a1 : Int64) (a3 : Int32) (σ : xS), w_Text_numeral_7 Q n a1 a3 σ → xJ (SHP, γ) Y_Text_numeral (d + 0) b0 7 [(0, .ref 1), (1, .long a1), (3, .int a3)] [] σ Q := by
  intro n
  induction n with
  | zero => intro a1 a3 σ h; exact h.elim
  | succ n ih =>
    intro a1 a3 σ h
    refine xJ.iload_n (o_Text_numeral 5 rfl) rfl ?_
    refine xJ.aload_n (o_Text_numeral 6 rfl) rfl ?_
    refine xJ.getfield (o_Text_numeral 7 rfl) f_Text_49 rfl rfl ?_
    refine xJ.icmp_ge (tgt := 47) (o_Text_numeral 8 rfl) (by decide) (fun z => ?_) (fun z => ?_)
    · replace h := h.1 z
      refine xJ.lload_n (o_Text_numeral 27 rfl) rfl ?_
      exact xJ.lreturn (o_Text_numeral 28 rfl) rfl h
    · replace h := h.2 z
      refine xJ.lload_n (o_Text_numeral 9 rfl) rfl ?_
      refine xJ.ldc2 (v := 2147483647) (o_Text_numeral 10 rfl) k_Text_115 ?_
      refine xJ.lcmp (o_Text_numeral 11 rfl) ?_
      refine xJ.if_gt (tgt := 47) (o_Text_numeral 12 rfl) (by decide) (fun z => ?_) (fun z => ?_)
      · replace h := h.1 z
        refine xJ.lload_n (o_Text_numeral 27 rfl) rfl ?_
        exact xJ.lreturn (o_Text_numeral 28 rfl) rfl h
      · replace h := h.2 z
        refine xJ.ldc2 (v := 10) (o_Text_numeral 13 rfl) k_Text_117 ?_
        refine xJ.lload_n (o_Text_numeral 14 rfl) rfl ?_
        refine xJ.lmul (o_Text_numeral 15 rfl) ?_
        refine xJ.aload_n (o_Text_numeral 16 rfl) rfl ?_
        refine xJ.getfield (o_Text_numeral 17 rfl) f_Text_10 rfl rfl ?_
        refine xJ.iload_n (o_Text_numeral 18 rfl) rfl ?_
        refine xJ.baload (o_Text_numeral 19 rfl) rfl h.1 ?_
        replace h := h.2
        refine xJ.i2l (o_Text_numeral 20 rfl) rfl ?_
        refine xJ.ladd (o_Text_numeral 21 rfl) ?_
        refine xJ.ldc2 (v := 48) (o_Text_numeral 22 rfl) k_Text_119 ?_
        refine xJ.lsub (o_Text_numeral 23 rfl) ?_
        refine xJ.lstore_n (o_Text_numeral 24 rfl) (by decide) ?_
        replace h := h _ rfl
        refine xJ.iincC (w := 1) (o_Text_numeral 25 rfl) rfl (by decide) (by decide) ?_
        replace h := h _ rfl
        refine xJ.goto (tgt := 7) (o_Text_numeral 26 rfl) (by decide) ?_
        exact xJ.lvs (by exact ⟨rfl, rfl, rfl, trivial⟩) (ih _ _ _ h)
set_option maxRecDepth 20000 in
theorem s_Text_numeral {γ : xG1} {d : Nat} {Q : xO → xS → Prop} {σ : xS}  (h : wp_Text_numeral Q σ ) : xM (SHP, γ) Y_Text_numeral (d + 0) [.ref 1] σ Q := by
  refine xM.of (by decide) (Nat.le_of_ble_eq_true rfl) ?_
  refine xJ.lconst (v := 0) (o_Text_numeral 0 rfl) (by decide) ?_
  refine xJ.lstore_n (o_Text_numeral 1 rfl) (by decide) ?_
  refine xJ.aload_n (o_Text_numeral 2 rfl) rfl ?_
  refine xJ.getfield (o_Text_numeral 3 rfl) f_Text_58 rfl rfl ?_
  refine xJ.istore_n (o_Text_numeral 4 rfl) (by decide) ?_
  replace h := h _ rfl
  obtain ⟨m, h⟩ := h
  exact xJ.lvs (by exact ⟨rfl, rfl, rfl, trivial⟩) (sw_Text_numeral_7 m _ _ _ h)
def w_Text_constant_24 (Q : xO → xS → Prop) : Nat → Int32 → Int64 → Int32 → xS → Prop
  | 0 => fun _ _ _ _ => False
  | n + 1 => fun a1 a2 a4 σ =>
    (((xi σ 1 11) ≤ a4 → Q (.inl (some (.long a2))) σ) ∧ (¬ (xi σ 1 11) ≤ a4 → (vp_in a4 65536 ∧ wp_Text_digit (xqi (fun r3 u2 => (∀ x4 : Int64, x4 = ((jlshl a2 a1) ||| r3.toInt64) → (∀ x5 : Int32, x5 = a4 + 1 → w_Text_constant_24 Q n a1 x4 x5 u2))) (fun n u => Q (.inr n) u)) σ (xi σ 2 a4.toNatClampNeg))))
def w_Text_constant_13 (Q : xO → xS → Prop) (t0 : Int32) (σ : xS) : Prop :=
  (∀ x1 : Int32, x1 = ((xi σ 1 10) + 2) → ∃ m, w_Text_constant_24 Q m t0 0 x1 σ)
def wp_Text_constant (Q : xO → xS → Prop) (σ : xS)  : Prop :=
  ((¬ (xi σ 1 9) = 3 → w_Text_constant_13 Q 4 σ) ∧ ((xi σ 1 9) = 3 → w_Text_constant_13 Q 1 σ))
set_option maxRecDepth 20000 in
theorem sw_Text_constant_24 {γ : xG1} {d b0 : Nat} {Q : xO → xS → Prop} : ∀ (n : Nat) (a1 : Int32) (a2 : Int64) (a4 : Int32) (σ : xS), w_Text_constant_24 Q n a1 a2 a4 σ → xJ (SHP, γ) Y_Text_constant (d + 2) b0 24 [(0, .ref 1), (1, .int a1), (2, .long a2), (4, .int a4)] [] σ Q := by
  intro n
  induction n with
  | zero => intro a1 a2 a4 σ h; exact h.elim
  | succ n ih =>
    intro a1 a2 a4 σ h
    refine xJ.iload (o_Text_constant 15 rfl) rfl ?_
    refine xJ.aload_n (o_Text_constant 16 rfl) rfl ?_
    refine xJ.getfield (o_Text_constant 17 rfl) f_Text_49 rfl rfl ?_
    refine xJ.icmp_ge (tgt := 55) (o_Text_constant 18 rfl) (by decide) (fun z => ?_) (fun z => ?_)
    · replace h := h.1 z
      refine xJ.lload_n (o_Text_constant 32 rfl) rfl ?_
      exact xJ.lreturn (o_Text_constant 33 rfl) rfl h
    · replace h := h.2 z
      refine xJ.lload_n (o_Text_constant 19 rfl) rfl ?_
      refine xJ.iload_n (o_Text_constant 20 rfl) rfl ?_
      refine xJ.lshl (o_Text_constant 21 rfl) rfl ?_
      refine xJ.aload_n (o_Text_constant 22 rfl) rfl ?_
      refine xJ.getfield (o_Text_constant 23 rfl) f_Text_10 rfl rfl ?_
      refine xJ.iload (o_Text_constant 24 rfl) rfl ?_
      refine xJ.baload (o_Text_constant 25 rfl) rfl h.1 ?_
      replace h := h.2
      refine xJ.callS (Y' := Y_Text_digit) (o_Text_constant 26 rfl) m_Text_99 y_Text_digit st_Text_digit (s_Text_digit h) rfl rfl (Nat.le_of_ble_eq_true rfl) (fun _ hx => by cases hx) (fun v u q => ?_) (fun n u q => q)
      obtain ⟨r, rfl, h⟩ := xqi_get q
      refine xJ.i2l (o_Text_constant 27 rfl) rfl ?_
      refine xJ.lor (o_Text_constant 28 rfl) ?_
      refine xJ.lstore_n (o_Text_constant 29 rfl) (by decide) ?_
      replace h := h _ rfl
      refine xJ.iincC (w := 1) (o_Text_constant 30 rfl) rfl (by decide) (by decide) ?_
      replace h := h _ rfl
      refine xJ.goto (tgt := 24) (o_Text_constant 31 rfl) (by decide) ?_
      exact xJ.lvs (by exact ⟨rfl, rfl, rfl, rfl, trivial⟩) (ih _ _ _ _ h)
set_option maxRecDepth 20000 in
theorem sw_Text_constant_13 {γ : xG1} {d b0 : Nat} {Q : xO → xS → Prop} {t0 : Int32} {σ : xS} (h : w_Text_constant_13 Q t0 σ) : xJ (SHP, γ) Y_Text_constant (d + 2) b0 13 [(0, .ref 1)] [.int t0] σ Q := by
  refine xJ.istore_n (o_Text_constant 7 rfl) (by decide) ?_
  refine xJ.lconst (v := 0) (o_Text_constant 8 rfl) (by decide) ?_
  refine xJ.lstore_n (o_Text_constant 9 rfl) (by decide) ?_
  refine xJ.aload_n (o_Text_constant 10 rfl) rfl ?_
  refine xJ.getfield (o_Text_constant 11 rfl) f_Text_58 rfl rfl ?_
  refine xJ.iconst (v := 2) (o_Text_constant 12 rfl) (by decide) ?_
  refine xJ.iadd (o_Text_constant 13 rfl) ?_
  refine xJ.istore (o_Text_constant 14 rfl) (by decide) ?_
  replace h := h _ rfl
  obtain ⟨m, h⟩ := h
  exact xJ.lvs (by exact ⟨rfl, rfl, rfl, rfl, trivial⟩) (sw_Text_constant_24 m _ _ _ _ h)
set_option maxRecDepth 20000 in
theorem s_Text_constant {γ : xG1} {d : Nat} {Q : xO → xS → Prop} {σ : xS}  (h : wp_Text_constant Q σ ) : xM (SHP, γ) Y_Text_constant (d + 2) [.ref 1] σ Q := by
  refine xM.of (by decide) (Nat.le_of_ble_eq_true rfl) ?_
  refine xJ.aload_n (o_Text_constant 0 rfl) rfl ?_
  refine xJ.getfield (o_Text_constant 1 rfl) f_Text_52 rfl rfl ?_
  refine xJ.iconst (v := 3) (o_Text_constant 2 rfl) (by decide) ?_
  refine xJ.icmp_ne (tgt := 12) (o_Text_constant 3 rfl) (by decide) (fun z => ?_) (fun z => ?_)
  · replace h := h.1 z
    refine xJ.iconst (v := 4) (o_Text_constant 6 rfl) (by decide) ?_
    exact xJ.lvs (by exact ⟨rfl, trivial⟩) (sw_Text_constant_13 h)
  · replace h := h.2 z
    refine xJ.iconst (v := 1) (o_Text_constant 4 rfl) (by decide) ?_
    refine xJ.goto (tgt := 13) (o_Text_constant 5 rfl) (by decide) ?_
    exact xJ.lvs (by exact ⟨rfl, trivial⟩) (sw_Text_constant_13 h)
def wp_Text_constantWidth (Q : xO → xS → Prop) (σ : xS)  : Prop :=
  ((¬ (xi σ 1 9) = 3 → Q (.inl (some (.int ((((xi σ 1 11) - (xi σ 1 10)) - 2) * 4)))) σ) ∧ ((xi σ 1 9) = 3 → Q (.inl (some (.int ((((xi σ 1 11) - (xi σ 1 10)) - 2) * 1)))) σ))
set_option maxRecDepth 20000 in
theorem s_Text_constantWidth {γ : xG1} {d : Nat} {Q : xO → xS → Prop} {σ : xS}  (h : wp_Text_constantWidth Q σ ) : xM (SHP, γ) Y_Text_constantWidth (d + 0) [.ref 1] σ Q := by
  refine xM.of (by decide) (Nat.le_of_ble_eq_true rfl) ?_
  refine xJ.aload_n (o_Text_constantWidth 0 rfl) rfl ?_
  refine xJ.getfield (o_Text_constantWidth 1 rfl) f_Text_49 rfl rfl ?_
  refine xJ.aload_n (o_Text_constantWidth 2 rfl) rfl ?_
  refine xJ.getfield (o_Text_constantWidth 3 rfl) f_Text_58 rfl rfl ?_
  refine xJ.isub (o_Text_constantWidth 4 rfl) ?_
  refine xJ.iconst (v := 2) (o_Text_constantWidth 5 rfl) (by decide) ?_
  refine xJ.isub (o_Text_constantWidth 6 rfl) ?_
  refine xJ.aload_n (o_Text_constantWidth 7 rfl) rfl ?_
  refine xJ.getfield (o_Text_constantWidth 8 rfl) f_Text_52 rfl rfl ?_
  refine xJ.iconst (v := 3) (o_Text_constantWidth 9 rfl) (by decide) ?_
  refine xJ.icmp_ne (tgt := 23) (o_Text_constantWidth 10 rfl) (by decide) (fun z => ?_) (fun z => ?_)
  · replace h := h.1 z
    refine xJ.iconst (v := 4) (o_Text_constantWidth 13 rfl) (by decide) ?_
    refine xJ.imul (o_Text_constantWidth 14 rfl) ?_
    exact xJ.ireturn (o_Text_constantWidth 15 rfl) rfl h
  · replace h := h.2 z
    refine xJ.iconst (v := 1) (o_Text_constantWidth 11 rfl) (by decide) ?_
    refine xJ.goto (tgt := 24) (o_Text_constantWidth 12 rfl) (by decide) ?_
    refine xJ.imul (o_Text_constantWidth 14 rfl) ?_
    exact xJ.ireturn (o_Text_constantWidth 15 rfl) rfl h
def w_Text_isSame_22 (Q : xO → xS → Prop) : Nat → Int32 → Int32 → xS → Prop
  | 0 => fun _ _ _ => False
  | n + 1 => fun a1 a3 σ =>
    (((xi σ 1 11) ≤ a3 → Q (.inl (some (.int 1))) σ) ∧ (¬ (xi σ 1 11) ≤ a3 → (vp_in a3 65536 ∧ (vp_in ((a1 + a3) - (xi σ 1 10)) 65536 ∧ (((xi σ 2 a3.toNatClampNeg) = (xi σ 2 ((a1 + a3) - (xi σ 1 10)).toNatClampNeg) → (∀ x2 : Int32, x2 = a3 + 1 → w_Text_isSame_22 Q n a1 x2 σ)) ∧ (¬ (xi σ 2 a3.toNatClampNeg) = (xi σ 2 ((a1 + a3) - (xi σ 1 10)).toNatClampNeg) → Q (.inl (some (.int 0))) σ))))))
def wp_Text_isSame (Q : xO → xS → Prop) (σ : xS) (a1 : Int32) (a2 : Int32) : Prop :=
  ((((xi σ 1 11) - (xi σ 1 10)) = (a2 - a1) → (∀ x1 : Int32, x1 = (xi σ 1 10) → ∃ m, w_Text_isSame_22 Q m a1 x1 σ)) ∧ (¬ ((xi σ 1 11) - (xi σ 1 10)) = (a2 - a1) → Q (.inl (some (.int 0))) σ))
set_option maxRecDepth 20000 in
theorem sw_Text_isSame_22 {γ : xG1} {d b0 : Nat} {Q : xO → xS → Prop} : ∀ (n : Nat) (a1 : Int32) (a3 : Int32) (σ : xS), w_Text_isSame_22 Q n a1 a3 σ → xJ (SHP, γ) Y_Text_isSame (d + 0) b0 22 [(0, .ref 1), (1, .int a1), (3, .int a3)] [] σ Q := by
  intro n
  induction n with
  | zero => intro a1 a3 σ h; exact h.elim
  | succ n ih =>
    intro a1 a3 σ h
    refine xJ.iload_n (o_Text_isSame 14 rfl) rfl ?_
    refine xJ.aload_n (o_Text_isSame 15 rfl) rfl ?_
    refine xJ.getfield (o_Text_isSame 16 rfl) f_Text_49 rfl rfl ?_
    refine xJ.icmp_ge (tgt := 60) (o_Text_isSame 17 rfl) (by decide) (fun z => ?_) (fun z => ?_)
    · replace h := h.1 z
      refine xJ.iconst (v := 1) (o_Text_isSame 36 rfl) (by decide) ?_
      exact xJ.zreturn (o_Text_isSame 37 rfl) rfl (Or.inr rfl) h
    · replace h := h.2 z
      refine xJ.aload_n (o_Text_isSame 18 rfl) rfl ?_
      refine xJ.getfield (o_Text_isSame 19 rfl) f_Text_10 rfl rfl ?_
      refine xJ.iload_n (o_Text_isSame 20 rfl) rfl ?_
      refine xJ.baload (o_Text_isSame 21 rfl) rfl h.1 ?_
      replace h := h.2
      refine xJ.aload_n (o_Text_isSame 22 rfl) rfl ?_
      refine xJ.getfield (o_Text_isSame 23 rfl) f_Text_10 rfl rfl ?_
      refine xJ.iload_n (o_Text_isSame 24 rfl) rfl ?_
      refine xJ.iload_n (o_Text_isSame 25 rfl) rfl ?_
      refine xJ.iadd (o_Text_isSame 26 rfl) ?_
      refine xJ.aload_n (o_Text_isSame 27 rfl) rfl ?_
      refine xJ.getfield (o_Text_isSame 28 rfl) f_Text_58 rfl rfl ?_
      refine xJ.isub (o_Text_isSame 29 rfl) ?_
      refine xJ.baload (o_Text_isSame 30 rfl) rfl h.1 ?_
      replace h := h.2
      refine xJ.icmp_eq (tgt := 54) (o_Text_isSame 31 rfl) (by decide) (fun z => ?_) (fun z => ?_)
      · replace h := h.1 z
        refine xJ.iincC (w := 1) (o_Text_isSame 34 rfl) rfl (by decide) (by decide) ?_
        replace h := h _ rfl
        refine xJ.goto (tgt := 22) (o_Text_isSame 35 rfl) (by decide) ?_
        exact xJ.lvs (by exact ⟨rfl, rfl, rfl, trivial⟩) (ih _ _ _ h)
      · replace h := h.2 z
        refine xJ.iconst (v := 0) (o_Text_isSame 32 rfl) (by decide) ?_
        exact xJ.zreturn (o_Text_isSame 33 rfl) rfl (Or.inl rfl) h
set_option maxRecDepth 20000 in
theorem s_Text_isSame {γ : xG1} {d : Nat} {Q : xO → xS → Prop} {σ : xS} {a1 : Int32} {a2 : Int32} (h : wp_Text_isSame Q σ a1 a2) : xM (SHP, γ) Y_Text_isSame (d + 0) [.ref 1, .int a1, .int a2] σ Q := by
  refine xM.of (by decide) (Nat.le_of_ble_eq_true rfl) ?_
  refine xJ.aload_n (o_Text_isSame 0 rfl) rfl ?_
  refine xJ.getfield (o_Text_isSame 1 rfl) f_Text_49 rfl rfl ?_
  refine xJ.aload_n (o_Text_isSame 2 rfl) rfl ?_
  refine xJ.getfield (o_Text_isSame 3 rfl) f_Text_58 rfl rfl ?_
  refine xJ.isub (o_Text_isSame 4 rfl) ?_
  refine xJ.iload_n (o_Text_isSame 5 rfl) rfl ?_
  refine xJ.iload_n (o_Text_isSame 6 rfl) rfl ?_
  refine xJ.isub (o_Text_isSame 7 rfl) ?_
  refine xJ.icmp_eq (tgt := 17) (o_Text_isSame 8 rfl) (by decide) (fun z => ?_) (fun z => ?_)
  · replace h := h.1 z
    refine xJ.aload_n (o_Text_isSame 11 rfl) rfl ?_
    refine xJ.getfield (o_Text_isSame 12 rfl) f_Text_58 rfl rfl ?_
    refine xJ.istore_n (o_Text_isSame 13 rfl) (by decide) ?_
    replace h := h _ rfl
    obtain ⟨m, h⟩ := h
    exact xJ.lvs (by exact ⟨rfl, rfl, rfl, trivial⟩) (sw_Text_isSame_22 m _ _ _ h)
  · replace h := h.2 z
    refine xJ.iconst (v := 0) (o_Text_isSame 9 rfl) (by decide) ?_
    exact xJ.zreturn (o_Text_isSame 10 rfl) rfl (Or.inl rfl) h
