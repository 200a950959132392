def wp_Learner_ask (Q : xO → xS → Prop) (σ : xS) (a1 : Int32) (a2 : Int64) : Prop :=
  (vp_in a1 2000 ∧ ((¬ (xi σ 7 a1.toNatClampNeg) = 47 → (vp_in a1 2000 ∧ (((xi σ 7 a1.toNatClampNeg) = 48 → Q (.inl none) σ) ∧ (¬ (xi σ 7 a1.toNatClampNeg) = 48 → (vp_in a1 2000 ∧ (vp_in a1 2000 ∧ (∀ s1 : xS, s1 = xpl σ 43 a1.toNatClampNeg ((xl σ 43 a1.toNatClampNeg) ||| a2) → Q (.inl none) s1))))))) ∧ ((xi σ 7 a1.toNatClampNeg) = 47 → (vp_in a1 2000 ∧ (vp_in ((xi σ 11 a1.toNatClampNeg) + 1) 501 ∧ (∀ s2 : xS, s2 = xpi σ 42 6 ((xi σ 42 6) ||| (jishl a2.toInt32 ((xi σ 42 5) - (xi σ 21 ((xi σ 11 a1.toNatClampNeg) + 1).toNatClampNeg)))) → Q (.inl none) s2))))))
set_option maxRecDepth 20000 in
theorem s_Learner_ask {γ : xG1} {d : Nat} {Q : xO → xS → Prop} {σ : xS} {a1 : Int32} {a2 : Int64} (h : wp_Learner_ask Q σ a1 a2) : xM (SHP, γ) Y_Learner_ask (d + 0) [.ref 42, .int a1, .long a2] σ Q := by
  refine xM.of (by decide) (Nat.le_of_ble_eq_true rfl) ?_
  refine xJ.aload_n (o_Learner_ask 0 rfl) rfl ?_
  refine xJ.getfield (o_Learner_ask 1 rfl) f_Learner_25 rfl rfl ?_
  refine xJ.getfield (o_Learner_ask 2 rfl) f_Learner_59 rfl rfl ?_
  refine xJ.iload_n (o_Learner_ask 3 rfl) rfl ?_
  refine xJ.iaload (o_Learner_ask 4 rfl) rfl h.1 ?_
  replace h := h.2
  refine xJ.bipush (v := 47) (o_Learner_ask 5 rfl) (by decide) ?_
  refine xJ.icmp_ne (tgt := 53) (o_Learner_ask 6 rfl) (by decide) (fun z => ?_) (fun z => ?_)
  · replace h := h.1 z
    refine xJ.aload_n (o_Learner_ask 30 rfl) rfl ?_
    refine xJ.getfield (o_Learner_ask 31 rfl) f_Learner_25 rfl rfl ?_
    refine xJ.getfield (o_Learner_ask 32 rfl) f_Learner_59 rfl rfl ?_
    refine xJ.iload_n (o_Learner_ask 33 rfl) rfl ?_
    refine xJ.iaload (o_Learner_ask 34 rfl) rfl h.1 ?_
    replace h := h.2
    refine xJ.bipush (v := 48) (o_Learner_ask 35 rfl) (by decide) ?_
    refine xJ.icmp_eq (tgt := 77) (o_Learner_ask 36 rfl) (by decide) (fun z => ?_) (fun z => ?_)
    · replace h := h.1 z
      exact xJ.return_ (o_Learner_ask 45 rfl) rfl h
    · replace h := h.2 z
      refine xJ.aload_n (o_Learner_ask 37 rfl) rfl ?_
      refine xJ.getfield (o_Learner_ask 38 rfl) f_Learner_9 rfl rfl ?_
      refine xJ.iload_n (o_Learner_ask 39 rfl) rfl ?_
      refine xJ.dup2_11 (o_Learner_ask 40 rfl) rfl rfl ?_
      refine xJ.laload (o_Learner_ask 41 rfl) rfl h.1 ?_
      replace h := h.2
      refine xJ.lload_n (o_Learner_ask 42 rfl) rfl ?_
      refine xJ.lor (o_Learner_ask 43 rfl) ?_
      refine xJ.lastore (o_Learner_ask 44 rfl) rfl h.1 ?_
      replace h := h.2
      replace h := h _ rfl
      exact xJ.return_ (o_Learner_ask 45 rfl) rfl h
  · replace h := h.2 z
    refine xJ.aload_n (o_Learner_ask 7 rfl) rfl ?_
    refine xJ.dup (o_Learner_ask 8 rfl) rfl ?_
    refine xJ.getfield (o_Learner_ask 9 rfl) f_Learner_37 rfl rfl ?_
    refine xJ.lload_n (o_Learner_ask 10 rfl) rfl ?_
    refine xJ.l2i (o_Learner_ask 11 rfl) rfl ?_
    refine xJ.aload_n (o_Learner_ask 12 rfl) rfl ?_
    refine xJ.getfield (o_Learner_ask 13 rfl) f_Learner_33 rfl rfl ?_
    refine xJ.aload_n (o_Learner_ask 14 rfl) rfl ?_
    refine xJ.getfield (o_Learner_ask 15 rfl) f_Learner_15 rfl rfl ?_
    refine xJ.getfield (o_Learner_ask 16 rfl) f_Learner_62 rfl rfl ?_
    refine xJ.aload_n (o_Learner_ask 17 rfl) rfl ?_
    refine xJ.getfield (o_Learner_ask 18 rfl) f_Learner_25 rfl rfl ?_
    refine xJ.getfield (o_Learner_ask 19 rfl) f_Learner_65 rfl rfl ?_
    refine xJ.iload_n (o_Learner_ask 20 rfl) rfl ?_
    refine xJ.iaload (o_Learner_ask 21 rfl) rfl h.1 ?_
    replace h := h.2
    refine xJ.iconst (v := 1) (o_Learner_ask 22 rfl) (by decide) ?_
    refine xJ.iadd (o_Learner_ask 23 rfl) ?_
    refine xJ.iaload (o_Learner_ask 24 rfl) rfl h.1 ?_
    replace h := h.2
    refine xJ.isub (o_Learner_ask 25 rfl) ?_
    refine xJ.ishl (o_Learner_ask 26 rfl) ?_
    refine xJ.ior (o_Learner_ask 27 rfl) ?_
    refine xJ.putI (o_Learner_ask 28 rfl) f_Learner_37 rfl rfl rfl ?_
    replace h := h _ rfl
    refine xJ.goto (tgt := 77) (o_Learner_ask 29 rfl) (by decide) ?_
    exact xJ.return_ (o_Learner_ask 45 rfl) rfl h
def w_Learner_askFilled_34 (Q : xO → xS → Prop) (t1 : Int32) (t2 : Int64) (σ : xS) : Prop :=
  wp_Learner_ask (xqv (fun u1 => Q (.inl none) u1) (fun n u => Q (.inr n) u)) σ t1 t2
def wp_Learner_askFilled (Q : xO → xS → Prop) (σ : xS) (a1 : Int32) (a2 : Int64) (a4 : Int32) : Prop :=
  ((a4 = 0 → w_Learner_askFilled_34 Q a1 a2 σ) ∧ (¬ a4 = 0 → (vp_in a1 2000 ∧ (vp_in a1 2000 ∧ w_Learner_askFilled_34 Q a1 (a2 ||| ((xl σ 13 a1.toNatClampNeg) ^^^ (jlushr (xl σ 13 a1.toNatClampNeg) 1))) σ))))
set_option maxRecDepth 20000 in
theorem sw_Learner_askFilled_34 {γ : xG1} {d b0 : Nat} {Q : xO → xS → Prop} {t1 : Int32} {t2 : Int64} {σ : xS} (h : w_Learner_askFilled_34 Q t1 t2 σ) : xJ (SHP, γ) Y_Learner_askFilled (d + 1) b0 34 [] [.long t2, .int t1, .ref 42] σ Q := by
  refine xJ.callV (Y' := Y_Learner_ask) (o_Learner_askFilled 21 rfl) m_Learner_40 y_Learner_ask im_Learner_ask se_Learner_ask rfl rfl (s_Learner_ask h) rfl rfl (Nat.le_of_ble_eq_true rfl) (fun _ hx => by cases hx) (fun v u q => ?_) (fun n u q => q)
  obtain ⟨rfl, h⟩ := xqv_get q
  exact xJ.return_ (o_Learner_askFilled 22 rfl) rfl h
set_option maxRecDepth 20000 in
theorem s_Learner_askFilled {γ : xG1} {d : Nat} {Q : xO → xS → Prop} {σ : xS} {a1 : Int32} {a2 : Int64} {a4 : Int32} (h : wp_Learner_askFilled Q σ a1 a2 a4) : xM (SHP, γ) Y_Learner_askFilled (d + 1) [.ref 42, .int a1, .long a2, .int a4] σ Q := by
  refine xM.of (by decide) (Nat.le_of_ble_eq_true rfl) ?_
  refine xJ.aload_n (o_Learner_askFilled 0 rfl) rfl ?_
  refine xJ.iload_n (o_Learner_askFilled 1 rfl) rfl ?_
  refine xJ.iload (o_Learner_askFilled 2 rfl) rfl ?_
  refine xJ.if_eq (tgt := 33) (o_Learner_askFilled 3 rfl) (by decide) (fun z => ?_) (fun z => ?_)
  · replace h := h.1 z
    refine xJ.lload_n (o_Learner_askFilled 20 rfl) rfl ?_
    exact xJ.lvs (by exact trivial) (sw_Learner_askFilled_34 h)
  · replace h := h.2 z
    refine xJ.lload_n (o_Learner_askFilled 4 rfl) rfl ?_
    refine xJ.aload_n (o_Learner_askFilled 5 rfl) rfl ?_
    refine xJ.getfield (o_Learner_askFilled 6 rfl) f_Learner_25 rfl rfl ?_
    refine xJ.getfield (o_Learner_askFilled 7 rfl) f_Learner_100 rfl rfl ?_
    refine xJ.iload_n (o_Learner_askFilled 8 rfl) rfl ?_
    refine xJ.laload (o_Learner_askFilled 9 rfl) rfl h.1 ?_
    replace h := h.2
    refine xJ.aload_n (o_Learner_askFilled 10 rfl) rfl ?_
    refine xJ.getfield (o_Learner_askFilled 11 rfl) f_Learner_25 rfl rfl ?_
    refine xJ.getfield (o_Learner_askFilled 12 rfl) f_Learner_100 rfl rfl ?_
    refine xJ.iload_n (o_Learner_askFilled 13 rfl) rfl ?_
    refine xJ.laload (o_Learner_askFilled 14 rfl) rfl h.1 ?_
    replace h := h.2
    refine xJ.iconst (v := 1) (o_Learner_askFilled 15 rfl) (by decide) ?_
    refine xJ.lushr (o_Learner_askFilled 16 rfl) rfl ?_
    refine xJ.lxor (o_Learner_askFilled 17 rfl) ?_
    refine xJ.lor (o_Learner_askFilled 18 rfl) ?_
    refine xJ.goto (tgt := 34) (o_Learner_askFilled 19 rfl) (by decide) ?_
    exact xJ.lvs (by exact trivial) (sw_Learner_askFilled_34 h)
def wp_Learner_isBetter (Q : xO → xS → Prop) (σ : xS) (a1 : Int32) (a2 : Int32) : Prop :=
  ((a2 = (-1) → Q (.inl (some (.int 1))) σ) ∧ (¬ a2 = (-1) → (vp_in a1 2000 ∧ wp_Words_trailingZeros (xqi (fun r2 u1 => (vp_in a2 2000 ∧ wp_Words_trailingZeros (xqi (fun r4 u3 => ((r2 ≤ r4 → Q (.inl (some (.int 0))) u3) ∧ (¬ r2 ≤ r4 → Q (.inl (some (.int 1))) u3))) (fun n u => Q (.inr n) u)) u1 (xi u1 31 a2.toNatClampNeg))) (fun n u => Q (.inr n) u)) σ (xi σ 31 a1.toNatClampNeg))))
set_option maxRecDepth 20000 in
theorem s_Learner_isBetter {γ : xG1} {d : Nat} {Q : xO → xS → Prop} {σ : xS} {a1 : Int32} {a2 : Int32} (h : wp_Learner_isBetter Q σ a1 a2) : xM (SHP, γ) Y_Learner_isBetter (d + 2) [.ref 42, .int a1, .int a2] σ Q := by
  refine xM.of (by decide) (Nat.le_of_ble_eq_true rfl) ?_
  refine xJ.iload_n (o_Learner_isBetter 0 rfl) rfl ?_
  refine xJ.iconst (v := (-1)) (o_Learner_isBetter 1 rfl) (by decide) ?_
  refine xJ.icmp_eq (tgt := 26) (o_Learner_isBetter 2 rfl) (by decide) (fun z => ?_) (fun z => ?_)
  · replace h := h.1 z
    refine xJ.iconst (v := 1) (o_Learner_isBetter 14 rfl) (by decide) ?_
    refine xJ.goto (tgt := 31) (o_Learner_isBetter 15 rfl) (by decide) ?_
    exact xJ.zreturn (o_Learner_isBetter 17 rfl) rfl (Or.inr rfl) h
  · replace h := h.2 z
    refine xJ.aload_n (o_Learner_isBetter 3 rfl) rfl ?_
    refine xJ.getfield (o_Learner_isBetter 4 rfl) f_Learner_29 rfl rfl ?_
    refine xJ.iload_n (o_Learner_isBetter 5 rfl) rfl ?_
    refine xJ.iaload (o_Learner_isBetter 6 rfl) rfl h.1 ?_
    replace h := h.2
    refine xJ.callS (Y' := Y_Words_trailingZeros) (o_Learner_isBetter 7 rfl) m_Learner_129 y_Words_trailingZeros st_Words_trailingZeros (s_Words_trailingZeros h) rfl rfl (Nat.le_of_ble_eq_true rfl) (fun _ hx => by cases hx) (fun v u q => ?_) (fun n u q => q)
    obtain ⟨r, rfl, h⟩ := xqi_get q
    refine xJ.aload_n (o_Learner_isBetter 8 rfl) rfl ?_
    refine xJ.getfield (o_Learner_isBetter 9 rfl) f_Learner_29 rfl rfl ?_
    refine xJ.iload_n (o_Learner_isBetter 10 rfl) rfl ?_
    refine xJ.iaload (o_Learner_isBetter 11 rfl) rfl h.1 ?_
    replace h := h.2
    refine xJ.callS (Y' := Y_Words_trailingZeros) (o_Learner_isBetter 12 rfl) m_Learner_129 y_Words_trailingZeros st_Words_trailingZeros (s_Words_trailingZeros h) rfl rfl (Nat.le_of_ble_eq_true rfl) (fun _ hx => by cases hx) (fun v u q => ?_) (fun n u q => q)
    obtain ⟨r, rfl, h⟩ := xqi_get q
    refine xJ.icmp_le (tgt := 30) (o_Learner_isBetter 13 rfl) (by decide) (fun z => ?_) (fun z => ?_)
    · replace h := h.1 z
      refine xJ.iconst (v := 0) (o_Learner_isBetter 16 rfl) (by decide) ?_
      exact xJ.zreturn (o_Learner_isBetter 17 rfl) rfl (Or.inl rfl) h
    · replace h := h.2 z
      refine xJ.iconst (v := 1) (o_Learner_isBetter 14 rfl) (by decide) ?_
      refine xJ.goto (tgt := 31) (o_Learner_isBetter 15 rfl) (by decide) ?_
      exact xJ.zreturn (o_Learner_isBetter 17 rfl) rfl (Or.inr rfl) h
def w_Learner_askAll_11 (Q : xO → xS → Prop) : Nat → Int32 → Int64 → Int32 → xS → Prop
  | 0 => fun _ _ _ _ => False
  | n + 1 => fun a1 a2 a4 σ =>
    (vp_in (a1 + 1) 2001 ∧ (((xi σ 9 (a1 + 1).toNatClampNeg) ≤ a4 → Q (.inl none) σ) ∧ (¬ (xi σ 9 (a1 + 1).toNatClampNeg) ≤ a4 → (vp_in a4 80000 ∧ wp_Learner_ask (xqv (fun u2 => (∀ x4 : Int32, x4 = a4 + 1 → w_Learner_askAll_11 Q n a1 a2 x4 u2)) (fun n u => Q (.inr n) u)) σ (xi σ 10 a4.toNatClampNeg) a2))))
def wp_Learner_askAll (Q : xO → xS → Prop) (σ : xS) (a1 : Int32) (a2 : Int64) : Prop :=
  (vp_in a1 2001 ∧ (∀ x1 : Int32, x1 = (xi σ 9 a1.toNatClampNeg) → ∃ m, w_Learner_askAll_11 Q m a1 a2 x1 σ))
set_option maxRecDepth 20000 in
theorem sw_Learner_askAll_11 {γ : xG1} {d b0 : Nat} {Q : xO → xS → Prop} : ∀ (n : Nat) (a1 : Int32) (a2 : Int64) (a4 : Int32) (σ : xS), w_Learner_askAll_11 Q n a1 a2 a4 σ → xJ (SHP, γ) Y_Learner_askAll (d + 1) b0 11 [(0, .ref 42), (1, .int a1), (2, .long a2), (4, .int a4)] [] σ Q := by
  intro n
  induction n with
  | zero => intro a1 a2 a4 σ h; exact h.elim
  | succ n ih =>
    intro a1 a2 a4 σ h
    refine xJ.iload (o_Learner_askAll 6 rfl) rfl ?_
    refine xJ.aload_n (o_Learner_askAll 7 rfl) rfl ?_
    refine xJ.getfield (o_Learner_askAll 8 rfl) f_Learner_25 rfl rfl ?_
    refine xJ.getfield (o_Learner_askAll 9 rfl) f_Learner_52 rfl rfl ?_
    refine xJ.iload_n (o_Learner_askAll 10 rfl) rfl ?_
    refine xJ.iconst (v := 1) (o_Learner_askAll 11 rfl) (by decide) ?_
    refine xJ.iadd (o_Learner_askAll 12 rfl) ?_
    refine xJ.iaload (o_Learner_askAll 13 rfl) rfl h.1 ?_
    replace h := h.2
    refine xJ.icmp_ge (tgt := 48) (o_Learner_askAll 14 rfl) (by decide) (fun z => ?_) (fun z => ?_)
    · replace h := h.1 z
      exact xJ.return_ (o_Learner_askAll 25 rfl) rfl h
    · replace h := h.2 z
      refine xJ.aload_n (o_Learner_askAll 15 rfl) rfl ?_
      refine xJ.aload_n (o_Learner_askAll 16 rfl) rfl ?_
      refine xJ.getfield (o_Learner_askAll 17 rfl) f_Learner_25 rfl rfl ?_
      refine xJ.getfield (o_Learner_askAll 18 rfl) f_Learner_49 rfl rfl ?_
      refine xJ.iload (o_Learner_askAll 19 rfl) rfl ?_
      refine xJ.iaload (o_Learner_askAll 20 rfl) rfl h.1 ?_
      replace h := h.2
      refine xJ.lload_n (o_Learner_askAll 21 rfl) rfl ?_
      refine xJ.callV (Y' := Y_Learner_ask) (o_Learner_askAll 22 rfl) m_Learner_40 y_Learner_ask im_Learner_ask se_Learner_ask rfl rfl (s_Learner_ask h) rfl rfl (Nat.le_of_ble_eq_true rfl) (fun _ hx => by cases hx) (fun v u q => ?_) (fun n u q => q)
      obtain ⟨rfl, h⟩ := xqv_get q
      refine xJ.iincC (w := 1) (o_Learner_askAll 23 rfl) rfl (by decide) (by decide) ?_
      replace h := h _ rfl
      refine xJ.goto (tgt := 11) (o_Learner_askAll 24 rfl) (by decide) ?_
      exact xJ.lvs (by exact ⟨rfl, rfl, rfl, rfl, trivial⟩) (ih _ _ _ _ h)
set_option maxRecDepth 20000 in
theorem s_Learner_askAll {γ : xG1} {d : Nat} {Q : xO → xS → Prop} {σ : xS} {a1 : Int32} {a2 : Int64} (h : wp_Learner_askAll Q σ a1 a2) : xM (SHP, γ) Y_Learner_askAll (d + 1) [.ref 42, .int a1, .long a2] σ Q := by
  refine xM.of (by decide) (Nat.le_of_ble_eq_true rfl) ?_
  refine xJ.aload_n (o_Learner_askAll 0 rfl) rfl ?_
  refine xJ.getfield (o_Learner_askAll 1 rfl) f_Learner_25 rfl rfl ?_
  refine xJ.getfield (o_Learner_askAll 2 rfl) f_Learner_52 rfl rfl ?_
  refine xJ.iload_n (o_Learner_askAll 3 rfl) rfl ?_
  refine xJ.iaload (o_Learner_askAll 4 rfl) rfl h.1 ?_
  replace h := h.2
  refine xJ.istore (o_Learner_askAll 5 rfl) (by decide) ?_
  replace h := h _ rfl
  obtain ⟨m, h⟩ := h
  exact xJ.lvs (by exact ⟨rfl, rfl, rfl, rfl, trivial⟩) (sw_Learner_askAll_11 m _ _ _ _ h)
def w_Learner_explainBitwise_58 (Q : xO → xS → Prop) (K21 : Int32 → Int64 → Int64 → Int32 → xS → Prop) : Nat → Int32 → Int64 → Int64 → Int32 → Int32 → Int32 → xS → Prop
  | 0 => fun _ _ _ _ _ _ _ => False
  | n + 1 => fun a1 a6 a8 a10 a11 a12 σ =>
    (vp_in (a1 + 1) 2001 ∧ (((xi σ 9 (a1 + 1).toNatClampNeg) ≤ a12 → ((a11 = (-1) → (∀ x6 : Int32, x6 = a10 + 1 → K21 a1 a6 a8 x6 σ)) ∧ (¬ a11 = (-1) → (vp_in a11 2000 ∧ wp_Learner_ask (xqv (fun u7 => (vp_in a11 2000 ∧ (∀ x9 : Int64, x9 = (a8 &&& (((xl u7 41 a11.toNatClampNeg) ^^^ a6) ^^^ (-1))) → (∀ x10 : Int32, x10 = a10 + 1 → K21 a1 a6 x9 x10 u7)))) (fun n u => Q (.inr n) u)) σ a11 (a8 &&& ((xl σ 41 a11.toNatClampNeg) ^^^ a6)))))) ∧ (¬ (xi σ 9 (a1 + 1).toNatClampNeg) ≤ a12 → (vp_in a12 80000 ∧ (∀ x11 : Int32, x11 = (xi σ 10 a12.toNatClampNeg) → (vp_in x11 2000 ∧ (((lg_cmp (a8 &&& ((xl σ 41 x11.toNatClampNeg) ^^^ a6)) 0) = 0 → (∀ x12 : Int32, x12 = a12 + 1 → w_Learner_explainBitwise_58 Q K21 n a1 a6 a8 a10 a11 x12 σ)) ∧ (¬ (lg_cmp (a8 &&& ((xl σ 41 x11.toNatClampNeg) ^^^ a6)) 0) = 0 → wp_Learner_isBetter (xqi (fun r14 u13 => ((r14 = 0 → (∀ x15 : Int32, x15 = a12 + 1 → w_Learner_explainBitwise_58 Q K21 n a1 a6 a8 a10 a11 x15 u13)) ∧ (¬ r14 = 0 → (∀ x16 : Int32, x16 = a12 + 1 → w_Learner_explainBitwise_58 Q K21 n a1 a6 a8 a10 x11 x16 u13)))) (fun n u => Q (.inr n) u)) σ x11 a11))))))))
def w_Learner_explainBitwise_21 (Q : xO → xS → Prop) : Nat → Int32 → Int64 → Int64 → Int32 → xS → Prop
  | 0 => fun _ _ _ _ _ => False
  | n + 1 => fun a1 a6 a8 a10 σ =>
    (vp_in (a1 + 1) 2001 ∧ (((xi σ 9 (a1 + 1).toNatClampNeg) ≤ a10 → Q (.inl none) σ) ∧ (¬ (xi σ 9 (a1 + 1).toNatClampNeg) ≤ a10 → (((lg_cmp a8 0) = 0 → Q (.inl none) σ) ∧ (¬ (lg_cmp a8 0) = 0 → (∀ x4 : Int32, x4 = (-1) → (vp_in a1 2001 ∧ (∀ x5 : Int32, x5 = (xi σ 9 a1.toNatClampNeg) → ∃ m, w_Learner_explainBitwise_58 Q (w_Learner_explainBitwise_21 Q n) m a1 a6 a8 a10 x4 x5 σ))))))))
def wp_Learner_explainBitwise (Q : xO → xS → Prop) (σ : xS) (a1 : Int32) (a2 : Int64) (a4 : Int64) (a6 : Int64) : Prop :=
  wp_Learner_askAll (xqv (fun u1 => (vp_in a1 2001 ∧ (∀ x3 : Int32, x3 = (xi u1 9 a1.toNatClampNeg) → ∃ m, w_Learner_explainBitwise_21 Q m a1 a6 a4 x3 u1))) (fun n u => Q (.inr n) u)) σ a1 a2
set_option maxRecDepth 20000 in
theorem sw_Learner_explainBitwise_58 {γ : xG1} {d b0 : Nat} {Q : xO → xS → Prop} {K21 : Int32 → Int64 → Int64 → Int32 → xS → Prop} (hK21 : ∀ a1 a6 a8 a10 σ, K21 a1 a6 a8 a10 σ → xJ (SHP, γ) Y_Learner_explainBitwise (d + 3) b0 21 [(0, .ref 42), (1, .int a1), (6, .long a6), (8, .long a8), (10, .int a10)] [] σ Q) : ∀ (n : Nat) (a1 : Int32) (a6 : Int64) (a8 : Int64) (a10 : Int32) (a11 : Int32) (a12 : Int32) (σ : xS), w_Learner_explainBitwise_58 Q K21 n a1 a6 a8 a10 a11 a12 σ → xJ (SHP, γ) Y_Learner_explainBitwise (d + 3) b0 58 [(0, .ref 42), (1, .int a1), (6, .long a6), (8, .long a8), (10, .int a10), (11, .int a11), (12, .int a12)] [] σ Q := by
  intro n
  induction n with
  | zero => intro a1 a6 a8 a10 a11 a12 σ h; exact h.elim
  | succ n ih =>
    intro a1 a6 a8 a10 a11 a12 σ h
    refine xJ.iload (o_Learner_explainBitwise 33 rfl) rfl ?_
    refine xJ.aload_n (o_Learner_explainBitwise 34 rfl) rfl ?_
    refine xJ.getfield (o_Learner_explainBitwise 35 rfl) f_Learner_25 rfl rfl ?_
    refine xJ.getfield (o_Learner_explainBitwise 36 rfl) f_Learner_52 rfl rfl ?_
    refine xJ.iload_n (o_Learner_explainBitwise 37 rfl) rfl ?_
    refine xJ.iconst (v := 1) (o_Learner_explainBitwise 38 rfl) (by decide) ?_
    refine xJ.iadd (o_Learner_explainBitwise 39 rfl) ?_
    refine xJ.iaload (o_Learner_explainBitwise 40 rfl) rfl h.1 ?_
    replace h := h.2
    refine xJ.icmp_ge (tgt := 125) (o_Learner_explainBitwise 41 rfl) (by decide) (fun z => ?_) (fun z => ?_)
    · replace h := h.1 z
      refine xJ.iload (o_Learner_explainBitwise 68 rfl) rfl ?_
      refine xJ.iconst (v := (-1)) (o_Learner_explainBitwise 69 rfl) (by decide) ?_
      refine xJ.icmp_eq (tgt := 169) (o_Learner_explainBitwise 70 rfl) (by decide) (fun z => ?_) (fun z => ?_)
      · replace h := h.1 z
        refine xJ.iincC (w := 1) (o_Learner_explainBitwise 93 rfl) rfl (by decide) (by decide) ?_
        replace h := h _ rfl
        refine xJ.goto (tgt := 21) (o_Learner_explainBitwise 94 rfl) (by decide) ?_
        exact xJ.lvs (by exact ⟨rfl, rfl, rfl, rfl, rfl, trivial⟩) (hK21 _ _ _ _ _ h)
      · replace h := h.2 z
        refine xJ.aload_n (o_Learner_explainBitwise 71 rfl) rfl ?_
        refine xJ.iload (o_Learner_explainBitwise 72 rfl) rfl ?_
        refine xJ.lload (o_Learner_explainBitwise 73 rfl) rfl ?_
        refine xJ.aload_n (o_Learner_explainBitwise 74 rfl) rfl ?_
        refine xJ.getfield (o_Learner_explainBitwise 75 rfl) f_Learner_26 rfl rfl ?_
        refine xJ.iload (o_Learner_explainBitwise 76 rfl) rfl ?_
        refine xJ.laload (o_Learner_explainBitwise 77 rfl) rfl h.1 ?_
        replace h := h.2
        refine xJ.lload (o_Learner_explainBitwise 78 rfl) rfl ?_
        refine xJ.lxor (o_Learner_explainBitwise 79 rfl) ?_
        refine xJ.land (o_Learner_explainBitwise 80 rfl) ?_
        refine xJ.callV (Y' := Y_Learner_ask) (o_Learner_explainBitwise 81 rfl) m_Learner_40 y_Learner_ask im_Learner_ask se_Learner_ask rfl rfl (s_Learner_ask h) rfl rfl (Nat.le_of_ble_eq_true rfl) (fun _ hx => by cases hx) (fun v u q => ?_) (fun n u q => q)
        obtain ⟨rfl, h⟩ := xqv_get q
        refine xJ.lload (o_Learner_explainBitwise 82 rfl) rfl ?_
        refine xJ.aload_n (o_Learner_explainBitwise 83 rfl) rfl ?_
        refine xJ.getfield (o_Learner_explainBitwise 84 rfl) f_Learner_26 rfl rfl ?_
        refine xJ.iload (o_Learner_explainBitwise 85 rfl) rfl ?_
        refine xJ.laload (o_Learner_explainBitwise 86 rfl) rfl h.1 ?_
        replace h := h.2
        refine xJ.lload (o_Learner_explainBitwise 87 rfl) rfl ?_
        refine xJ.lxor (o_Learner_explainBitwise 88 rfl) ?_
        refine xJ.ldc2 (v := (-1)) (o_Learner_explainBitwise 89 rfl) k_Learner_68 ?_
        refine xJ.lxor (o_Learner_explainBitwise 90 rfl) ?_
        refine xJ.land (o_Learner_explainBitwise 91 rfl) ?_
        refine xJ.lstore (o_Learner_explainBitwise 92 rfl) (by decide) ?_
        replace h := h _ rfl
        refine xJ.iincC (w := 1) (o_Learner_explainBitwise 93 rfl) rfl (by decide) (by decide) ?_
        replace h := h _ rfl
        refine xJ.goto (tgt := 21) (o_Learner_explainBitwise 94 rfl) (by decide) ?_
        exact xJ.lvs (by exact ⟨rfl, rfl, rfl, rfl, rfl, trivial⟩) (hK21 _ _ _ _ _ h)
    · replace h := h.2 z
      refine xJ.aload_n (o_Learner_explainBitwise 42 rfl) rfl ?_
      refine xJ.getfield (o_Learner_explainBitwise 43 rfl) f_Learner_25 rfl rfl ?_
      refine xJ.getfield (o_Learner_explainBitwise 44 rfl) f_Learner_49 rfl rfl ?_
      refine xJ.iload (o_Learner_explainBitwise 45 rfl) rfl ?_
      refine xJ.iaload (o_Learner_explainBitwise 46 rfl) rfl h.1 ?_
      replace h := h.2
      refine xJ.istore (o_Learner_explainBitwise 47 rfl) (by decide) ?_
      replace h := h _ rfl
      refine xJ.lload (o_Learner_explainBitwise 48 rfl) rfl ?_
      refine xJ.aload_n (o_Learner_explainBitwise 49 rfl) rfl ?_
      refine xJ.getfield (o_Learner_explainBitwise 50 rfl) f_Learner_26 rfl rfl ?_
      refine xJ.iload (o_Learner_explainBitwise 51 rfl) rfl ?_
      refine xJ.laload (o_Learner_explainBitwise 52 rfl) rfl h.1 ?_
      replace h := h.2
      refine xJ.lload (o_Learner_explainBitwise 53 rfl) rfl ?_
      refine xJ.lxor (o_Learner_explainBitwise 54 rfl) ?_
      refine xJ.land (o_Learner_explainBitwise 55 rfl) ?_
      refine xJ.lconst (v := 0) (o_Learner_explainBitwise 56 rfl) (by decide) ?_
      refine xJ.lcmp (o_Learner_explainBitwise 57 rfl) ?_
      refine xJ.if_eq (tgt := 119) (o_Learner_explainBitwise 58 rfl) (by decide) (fun z => ?_) (fun z => ?_)
      · replace h := h.1 z
        refine xJ.iincC (w := 1) (o_Learner_explainBitwise 66 rfl) rfl (by decide) (by decide) ?_
        replace h := h _ rfl
        refine xJ.goto (tgt := 58) (o_Learner_explainBitwise 67 rfl) (by decide) ?_
        exact xJ.lvs (by exact ⟨rfl, rfl, rfl, rfl, rfl, rfl, rfl, trivial⟩) (ih _ _ _ _ _ _ _ h)
      · replace h := h.2 z
        refine xJ.aload_n (o_Learner_explainBitwise 59 rfl) rfl ?_
        refine xJ.iload (o_Learner_explainBitwise 60 rfl) rfl ?_
        refine xJ.iload (o_Learner_explainBitwise 61 rfl) rfl ?_
        refine xJ.callV (Y' := Y_Learner_isBetter) (o_Learner_explainBitwise 62 rfl) m_Learner_125 y_Learner_isBetter im_Learner_isBetter se_Learner_isBetter rfl rfl (s_Learner_isBetter h) rfl rfl (Nat.le_of_ble_eq_true rfl) (fun _ hx => by cases hx) (fun v u q => ?_) (fun n u q => q)
        obtain ⟨r, rfl, h⟩ := xqi_get q
        refine xJ.if_eq (tgt := 119) (o_Learner_explainBitwise 63 rfl) (by decide) (fun z => ?_) (fun z => ?_)
        · replace h := h.1 z
          refine xJ.iincC (w := 1) (o_Learner_explainBitwise 66 rfl) rfl (by decide) (by decide) ?_
          replace h := h _ rfl
          refine xJ.goto (tgt := 58) (o_Learner_explainBitwise 67 rfl) (by decide) ?_
          exact xJ.lvs (by exact ⟨rfl, rfl, rfl, rfl, rfl, rfl, rfl, trivial⟩) (ih _ _ _ _ _ _ _ h)
        · replace h := h.2 z
          refine xJ.iload (o_Learner_explainBitwise 64 rfl) rfl ?_
          refine xJ.istore (o_Learner_explainBitwise 65 rfl) (by decide) ?_
          refine xJ.iincC (w := 1) (o_Learner_explainBitwise 66 rfl) rfl (by decide) (by decide) ?_
          replace h := h _ rfl
          refine xJ.goto (tgt := 58) (o_Learner_explainBitwise 67 rfl) (by decide) ?_
          exact xJ.lvs (by exact ⟨rfl, rfl, rfl, rfl, rfl, rfl, rfl, trivial⟩) (ih _ _ _ _ _ _ _ h)
set_option maxRecDepth 20000 in
theorem sw_Learner_explainBitwise_21 {γ : xG1} {d b0 : Nat} {Q : xO → xS → Prop} : ∀ (n : Nat) (a1 : Int32) (a6 : Int64) (a8 : Int64) (a10 : Int32) (σ : xS), w_Learner_explainBitwise_21 Q n a1 a6 a8 a10 σ → xJ (SHP, γ) Y_Learner_explainBitwise (d + 3) b0 21 [(0, .ref 42), (1, .int a1), (6, .long a6), (8, .long a8), (10, .int a10)] [] σ Q := by
  intro n
  induction n with
  | zero => intro a1 a6 a8 a10 σ h; exact h.elim
  | succ n ih =>
    intro a1 a6 a8 a10 σ h
    refine xJ.iload (o_Learner_explainBitwise 12 rfl) rfl ?_
    refine xJ.aload_n (o_Learner_explainBitwise 13 rfl) rfl ?_
    refine xJ.getfield (o_Learner_explainBitwise 14 rfl) f_Learner_25 rfl rfl ?_
    refine xJ.getfield (o_Learner_explainBitwise 15 rfl) f_Learner_52 rfl rfl ?_
    refine xJ.iload_n (o_Learner_explainBitwise 16 rfl) rfl ?_
    refine xJ.iconst (v := 1) (o_Learner_explainBitwise 17 rfl) (by decide) ?_
    refine xJ.iadd (o_Learner_explainBitwise 18 rfl) ?_
    refine xJ.iaload (o_Learner_explainBitwise 19 rfl) rfl h.1 ?_
    replace h := h.2
    refine xJ.icmp_ge (tgt := 175) (o_Learner_explainBitwise 20 rfl) (by decide) (fun z => ?_) (fun z => ?_)
    · replace h := h.1 z
      exact xJ.return_ (o_Learner_explainBitwise 95 rfl) rfl h
    · replace h := h.2 z
      refine xJ.lload (o_Learner_explainBitwise 21 rfl) rfl ?_
      refine xJ.lconst (v := 0) (o_Learner_explainBitwise 22 rfl) (by decide) ?_
      refine xJ.lcmp (o_Learner_explainBitwise 23 rfl) ?_
      refine xJ.if_eq (tgt := 175) (o_Learner_explainBitwise 24 rfl) (by decide) (fun z => ?_) (fun z => ?_)
      · replace h := h.1 z
        exact xJ.return_ (o_Learner_explainBitwise 95 rfl) rfl h
      · replace h := h.2 z
        refine xJ.iconst (v := (-1)) (o_Learner_explainBitwise 25 rfl) (by decide) ?_
        refine xJ.istore (o_Learner_explainBitwise 26 rfl) (by decide) ?_
        replace h := h _ rfl
        refine xJ.aload_n (o_Learner_explainBitwise 27 rfl) rfl ?_
        refine xJ.getfield (o_Learner_explainBitwise 28 rfl) f_Learner_25 rfl rfl ?_
        refine xJ.getfield (o_Learner_explainBitwise 29 rfl) f_Learner_52 rfl rfl ?_
        refine xJ.iload_n (o_Learner_explainBitwise 30 rfl) rfl ?_
        refine xJ.iaload (o_Learner_explainBitwise 31 rfl) rfl h.1 ?_
        replace h := h.2
        refine xJ.istore (o_Learner_explainBitwise 32 rfl) (by decide) ?_
        replace h := h _ rfl
        obtain ⟨m, h⟩ := h
        exact xJ.lvs (by exact ⟨rfl, rfl, rfl, rfl, rfl, rfl, rfl, trivial⟩) (sw_Learner_explainBitwise_58 ih m _ _ _ _ _ _ _ h)
set_option maxRecDepth 20000 in
theorem s_Learner_explainBitwise {γ : xG1} {d : Nat} {Q : xO → xS → Prop} {σ : xS} {a1 : Int32} {a2 : Int64} {a4 : Int64} {a6 : Int64} (h : wp_Learner_explainBitwise Q σ a1 a2 a4 a6) : xM (SHP, γ) Y_Learner_explainBitwise (d + 3) [.ref 42, .int a1, .long a2, .long a4, .long a6] σ Q := by
  refine xM.of (by decide) (Nat.le_of_ble_eq_true rfl) ?_
  refine xJ.aload_n (o_Learner_explainBitwise 0 rfl) rfl ?_
  refine xJ.iload_n (o_Learner_explainBitwise 1 rfl) rfl ?_
  refine xJ.lload_n (o_Learner_explainBitwise 2 rfl) rfl ?_
  refine xJ.callV (Y' := Y_Learner_askAll) (o_Learner_explainBitwise 3 rfl) m_Learner_74 y_Learner_askAll im_Learner_askAll se_Learner_askAll rfl rfl (s_Learner_askAll h) rfl rfl (Nat.le_of_ble_eq_true rfl) (fun _ hx => by cases hx) (fun v u q => ?_) (fun n u q => q)
  obtain ⟨rfl, h⟩ := xqv_get q
  refine xJ.lload (o_Learner_explainBitwise 4 rfl) rfl ?_
  refine xJ.lstore (o_Learner_explainBitwise 5 rfl) (by decide) ?_
  refine xJ.aload_n (o_Learner_explainBitwise 6 rfl) rfl ?_
  refine xJ.getfield (o_Learner_explainBitwise 7 rfl) f_Learner_25 rfl rfl ?_
  refine xJ.getfield (o_Learner_explainBitwise 8 rfl) f_Learner_52 rfl rfl ?_
  refine xJ.iload_n (o_Learner_explainBitwise 9 rfl) rfl ?_
  refine xJ.iaload (o_Learner_explainBitwise 10 rfl) rfl h.1 ?_
  replace h := h.2
  refine xJ.istore (o_Learner_explainBitwise 11 rfl) (by decide) ?_
  replace h := h _ rfl
  obtain ⟨m, h⟩ := h
  exact xJ.lvs (by exact ⟨rfl, rfl, rfl, rfl, rfl, trivial⟩) (sw_Learner_explainBitwise_21 m _ _ _ _ _ h)
def w_Learner_explainImplication_81 (Q : xO → xS → Prop) (K45 : Int32 → Int32 → Int32 → xS → Prop) (a2 : Int32) (a3 : Int32) (a4 : Int32) (a5 : Int32) (t0 : Int64) (t1 : Int64) (σ : xS) : Prop :=
  ((¬ (lg_cmp t0 t1) = 0 → (∀ x7 : Int32, x7 = a4 + 1 → K45 a2 a3 x7 σ)) ∧ ((lg_cmp t0 t1) = 0 → wp_Learner_isBetter (xqi (fun r9 u8 => ((r9 = 0 → (∀ x10 : Int32, x10 = a4 + 1 → K45 a2 a3 x10 u8)) ∧ (¬ r9 = 0 → (∀ x11 : Int32, x11 = a4 + 1 → K45 a2 a5 x11 u8)))) (fun n u => Q (.inr n) u)) σ a5 a3))
def w_Learner_explainImplication_45 (Q : xO → xS → Prop) : Nat → Int32 → Int32 → Int32 → xS → Prop
  | 0 => fun _ _ _ _ => False
  | n + 1 => fun a2 a3 a4 σ =>
    ((a2 < a4 → ((a3 = (-1) → Q (.inl none) σ) ∧ (¬ a3 = (-1) → wp_Learner_ask (xqv (fun u4 => Q (.inl none) u4) (fun n u => Q (.inr n) u)) σ a3 1))) ∧ (¬ a2 < a4 → (vp_in a4 80000 ∧ (∀ x6 : Int32, x6 = (xi σ 10 a4.toNatClampNeg) → (vp_in x6 2000 ∧ ((¬ a4 = a2 → w_Learner_explainImplication_81 Q (w_Learner_explainImplication_45 Q n) a2 a3 a4 x6 (xl σ 41 x6.toNatClampNeg) 0 σ) ∧ (a4 = a2 → w_Learner_explainImplication_81 Q (w_Learner_explainImplication_45 Q n) a2 a3 a4 x6 (xl σ 41 x6.toNatClampNeg) 1 σ)))))))
def wp_Learner_explainImplication (Q : xO → xS → Prop) (σ : xS) (a1 : Int32) : Prop :=
  (vp_in a1 2000 ∧ ((¬ (lg_cmp (xl σ 41 a1.toNatClampNeg) 0) = 0 → (vp_in (a1 + 1) 2001 ∧ (∀ x1 : Int32, x1 = ((xi σ 9 (a1 + 1).toNatClampNeg) - 1) → (∀ x2 : Int32, x2 = (-1) → (vp_in a1 2001 ∧ (∀ x3 : Int32, x3 = (xi σ 9 a1.toNatClampNeg) → ∃ m, w_Learner_explainImplication_45 Q m x1 x2 x3 σ)))))) ∧ ((lg_cmp (xl σ 41 a1.toNatClampNeg) 0) = 0 → wp_Learner_askAll (xqv (fun u12 => Q (.inl none) u12) (fun n u => Q (.inr n) u)) σ a1 1)))
set_option maxRecDepth 20000 in
theorem sw_Learner_explainImplication_81 {γ : xG1} {d b0 : Nat} {Q : xO → xS → Prop} {K45 : Int32 → Int32 → Int32 → xS → Prop} (hK45 : ∀ a2 a3 a4 σ, K45 a2 a3 a4 σ → xJ (SHP, γ) Y_Learner_explainImplication (d + 3) b0 45 [(0, .ref 42), (2, .int a2), (3, .int a3), (4, .int a4)] [] σ Q) {a2 : Int32} {a3 : Int32} {a4 : Int32} {a5 : Int32} {t0 : Int64} {t1 : Int64} {σ : xS} (h : w_Learner_explainImplication_81 Q K45 a2 a3 a4 a5 t0 t1 σ) : xJ (SHP, γ) Y_Learner_explainImplication (d + 3) b0 81 [(0, .ref 42), (2, .int a2), (3, .int a3), (4, .int a4), (5, .int a5)] [.long t1, .long t0] σ Q := by
  refine xJ.lcmp (o_Learner_explainImplication 49 rfl) ?_
  refine xJ.if_ne (tgt := 98) (o_Learner_explainImplication 50 rfl) (by decide) (fun z => ?_) (fun z => ?_)
  · replace h := h.1 z
    refine xJ.iincC (w := 1) (o_Learner_explainImplication 58 rfl) rfl (by decide) (by decide) ?_
    replace h := h _ rfl
    refine xJ.goto (tgt := 45) (o_Learner_explainImplication 59 rfl) (by decide) ?_
    exact xJ.lvs (by exact ⟨rfl, rfl, rfl, rfl, trivial⟩) (hK45 _ _ _ _ h)
  · replace h := h.2 z
    refine xJ.aload_n (o_Learner_explainImplication 51 rfl) rfl ?_
    refine xJ.iload (o_Learner_explainImplication 52 rfl) rfl ?_
    refine xJ.iload_n (o_Learner_explainImplication 53 rfl) rfl ?_
    refine xJ.callV (Y' := Y_Learner_isBetter) (o_Learner_explainImplication 54 rfl) m_Learner_125 y_Learner_isBetter im_Learner_isBetter se_Learner_isBetter rfl rfl (s_Learner_isBetter h) rfl rfl (Nat.le_of_ble_eq_true rfl) (fun _ hx => by cases hx) (fun v u q => ?_) (fun n u q => q)
    obtain ⟨r, rfl, h⟩ := xqi_get q
    refine xJ.if_eq (tgt := 98) (o_Learner_explainImplication 55 rfl) (by decide) (fun z => ?_) (fun z => ?_)
    · replace h := h.1 z
      refine xJ.iincC (w := 1) (o_Learner_explainImplication 58 rfl) rfl (by decide) (by decide) ?_
      replace h := h _ rfl
      refine xJ.goto (tgt := 45) (o_Learner_explainImplication 59 rfl) (by decide) ?_
      exact xJ.lvs (by exact ⟨rfl, rfl, rfl, rfl, trivial⟩) (hK45 _ _ _ _ h)
    · replace h := h.2 z
      refine xJ.iload (o_Learner_explainImplication 56 rfl) rfl ?_
      refine xJ.istore_n (o_Learner_explainImplication 57 rfl) (by decide) ?_
      refine xJ.iincC (w := 1) (o_Learner_explainImplication 58 rfl) rfl (by decide) (by decide) ?_
      replace h := h _ rfl
      refine xJ.goto (tgt := 45) (o_Learner_explainImplication 59 rfl) (by decide) ?_
      exact xJ.lvs (by exact ⟨rfl, rfl, rfl, rfl, trivial⟩) (hK45 _ _ _ _ h)
set_option maxRecDepth 20000 in
theorem sw_Learner_explainImplication_45 {γ : xG1} {d b0 : Nat} {Q : xO → xS → Prop} : ∀ (n : Nat) (a2 : Int32) (a3 : Int32) (a4 : Int32) (σ : xS), w_Learner_explainImplication_45 Q n a2 a3 a4 σ → xJ (SHP, γ) Y_Learner_explainImplication (d + 3) b0 45 [(0, .ref 42), (2, .int a2), (3, .int a3), (4, .int a4)] [] σ Q := by
  intro n
  induction n with
  | zero => intro a2 a3 a4 σ h; exact h.elim
  | succ n ih =>
    intro a2 a3 a4 σ h
    refine xJ.iload (o_Learner_explainImplication 30 rfl) rfl ?_
    refine xJ.iload_n (o_Learner_explainImplication 31 rfl) rfl ?_
    refine xJ.icmp_gt (tgt := 104) (o_Learner_explainImplication 32 rfl) (by decide) (fun z => ?_) (fun z => ?_)
    · replace h := h.1 z
      refine xJ.iload_n (o_Learner_explainImplication 60 rfl) rfl ?_
      refine xJ.iconst (v := (-1)) (o_Learner_explainImplication 61 rfl) (by decide) ?_
      refine xJ.icmp_eq (tgt := 115) (o_Learner_explainImplication 62 rfl) (by decide) (fun z => ?_) (fun z => ?_)
      · replace h := h.1 z
        exact xJ.return_ (o_Learner_explainImplication 67 rfl) rfl h
      · replace h := h.2 z
        refine xJ.aload_n (o_Learner_explainImplication 63 rfl) rfl ?_
        refine xJ.iload_n (o_Learner_explainImplication 64 rfl) rfl ?_
        refine xJ.lconst (v := 1) (o_Learner_explainImplication 65 rfl) (by decide) ?_
        refine xJ.callV (Y' := Y_Learner_ask) (o_Learner_explainImplication 66 rfl) m_Learner_40 y_Learner_ask im_Learner_ask se_Learner_ask rfl rfl (s_Learner_ask h) rfl rfl (Nat.le_of_ble_eq_true rfl) (fun _ hx => by cases hx) (fun v u q => ?_) (fun n u q => q)
        obtain ⟨rfl, h⟩ := xqv_get q
        exact xJ.return_ (o_Learner_explainImplication 67 rfl) rfl h
    · replace h := h.2 z
      refine xJ.aload_n (o_Learner_explainImplication 33 rfl) rfl ?_
      refine xJ.getfield (o_Learner_explainImplication 34 rfl) f_Learner_25 rfl rfl ?_
      refine xJ.getfield (o_Learner_explainImplication 35 rfl) f_Learner_49 rfl rfl ?_
      refine xJ.iload (o_Learner_explainImplication 36 rfl) rfl ?_
      refine xJ.iaload (o_Learner_explainImplication 37 rfl) rfl h.1 ?_
      replace h := h.2
      refine xJ.istore (o_Learner_explainImplication 38 rfl) (by decide) ?_
      replace h := h _ rfl
      refine xJ.aload_n (o_Learner_explainImplication 39 rfl) rfl ?_
      refine xJ.getfield (o_Learner_explainImplication 40 rfl) f_Learner_26 rfl rfl ?_
      refine xJ.iload (o_Learner_explainImplication 41 rfl) rfl ?_
      refine xJ.laload (o_Learner_explainImplication 42 rfl) rfl h.1 ?_
      replace h := h.2
      refine xJ.iload (o_Learner_explainImplication 43 rfl) rfl ?_
      refine xJ.iload_n (o_Learner_explainImplication 44 rfl) rfl ?_
      refine xJ.icmp_ne (tgt := 80) (o_Learner_explainImplication 45 rfl) (by decide) (fun z => ?_) (fun z => ?_)
      · replace h := h.1 z
        refine xJ.lconst (v := 0) (o_Learner_explainImplication 48 rfl) (by decide) ?_
        exact xJ.lvs (by exact ⟨rfl, rfl, rfl, rfl, rfl, trivial⟩) (sw_Learner_explainImplication_81 ih h)
      · replace h := h.2 z
        refine xJ.lconst (v := 1) (o_Learner_explainImplication 46 rfl) (by decide) ?_
        refine xJ.goto (tgt := 81) (o_Learner_explainImplication 47 rfl) (by decide) ?_
        exact xJ.lvs (by exact ⟨rfl, rfl, rfl, rfl, rfl, trivial⟩) (sw_Learner_explainImplication_81 ih h)
set_option maxRecDepth 20000 in
theorem s_Learner_explainImplication {γ : xG1} {d : Nat} {Q : xO → xS → Prop} {σ : xS} {a1 : Int32} (h : wp_Learner_explainImplication Q σ a1) : xM (SHP, γ) Y_Learner_explainImplication (d + 3) [.ref 42, .int a1] σ Q := by
  refine xM.of (by decide) (Nat.le_of_ble_eq_true rfl) ?_
  refine xJ.aload_n (o_Learner_explainImplication 0 rfl) rfl ?_
  refine xJ.getfield (o_Learner_explainImplication 1 rfl) f_Learner_26 rfl rfl ?_
  refine xJ.iload_n (o_Learner_explainImplication 2 rfl) rfl ?_
  refine xJ.laload (o_Learner_explainImplication 3 rfl) rfl h.1 ?_
  replace h := h.2
  refine xJ.lconst (v := 0) (o_Learner_explainImplication 4 rfl) (by decide) ?_
  refine xJ.lcmp (o_Learner_explainImplication 5 rfl) ?_
  refine xJ.if_ne (tgt := 18) (o_Learner_explainImplication 6 rfl) (by decide) (fun z => ?_) (fun z => ?_)
  · replace h := h.1 z
    refine xJ.aload_n (o_Learner_explainImplication 12 rfl) rfl ?_
    refine xJ.getfield (o_Learner_explainImplication 13 rfl) f_Learner_25 rfl rfl ?_
    refine xJ.getfield (o_Learner_explainImplication 14 rfl) f_Learner_52 rfl rfl ?_
    refine xJ.iload_n (o_Learner_explainImplication 15 rfl) rfl ?_
    refine xJ.iconst (v := 1) (o_Learner_explainImplication 16 rfl) (by decide) ?_
    refine xJ.iadd (o_Learner_explainImplication 17 rfl) ?_
    refine xJ.iaload (o_Learner_explainImplication 18 rfl) rfl h.1 ?_
    replace h := h.2
    refine xJ.iconst (v := 1) (o_Learner_explainImplication 19 rfl) (by decide) ?_
    refine xJ.isub (o_Learner_explainImplication 20 rfl) ?_
    refine xJ.istore_n (o_Learner_explainImplication 21 rfl) (by decide) ?_
    replace h := h _ rfl
    refine xJ.iconst (v := (-1)) (o_Learner_explainImplication 22 rfl) (by decide) ?_
    refine xJ.istore_n (o_Learner_explainImplication 23 rfl) (by decide) ?_
    replace h := h _ rfl
    refine xJ.aload_n (o_Learner_explainImplication 24 rfl) rfl ?_
    refine xJ.getfield (o_Learner_explainImplication 25 rfl) f_Learner_25 rfl rfl ?_
    refine xJ.getfield (o_Learner_explainImplication 26 rfl) f_Learner_52 rfl rfl ?_
    refine xJ.iload_n (o_Learner_explainImplication 27 rfl) rfl ?_
    refine xJ.iaload (o_Learner_explainImplication 28 rfl) rfl h.1 ?_
    replace h := h.2
    refine xJ.istore (o_Learner_explainImplication 29 rfl) (by decide) ?_
    replace h := h _ rfl
    obtain ⟨m, h⟩ := h
    exact xJ.lvs (by exact ⟨rfl, rfl, rfl, rfl, trivial⟩) (sw_Learner_explainImplication_45 m _ _ _ _ h)
  · replace h := h.2 z
    refine xJ.aload_n (o_Learner_explainImplication 7 rfl) rfl ?_
    refine xJ.iload_n (o_Learner_explainImplication 8 rfl) rfl ?_
    refine xJ.lconst (v := 1) (o_Learner_explainImplication 9 rfl) (by decide) ?_
    refine xJ.callV (Y' := Y_Learner_askAll) (o_Learner_explainImplication 10 rfl) m_Learner_74 y_Learner_askAll im_Learner_askAll se_Learner_askAll rfl rfl (s_Learner_askAll h) rfl rfl (Nat.le_of_ble_eq_true rfl) (fun _ hx => by cases hx) (fun v u q => ?_) (fun n u q => q)
    obtain ⟨rfl, h⟩ := xqv_get q
    exact xJ.return_ (o_Learner_explainImplication 11 rfl) rfl h
def w_Learner_explainIte_39 (Q : xO → xS → Prop) (a3 : Int64) (t2 : Int32) (t3 : Int32) (σ : xS) : Prop :=
  (vp_in (t2 + t3) 80000 ∧ wp_Learner_ask (xqv (fun u3 => Q (.inl none) u3) (fun n u => Q (.inr n) u)) σ (xi σ 10 (t2 + t3).toNatClampNeg) a3)
def wp_Learner_explainIte (Q : xO → xS → Prop) (σ : xS) (a1 : Int32) (a2 : Int32) (a3 : Int64) : Prop :=
  wp_Learner_ask (xqv (fun u1 => (vp_in a1 2001 ∧ (vp_in a2 2000 ∧ (((lg_cmp (xl u1 41 a2.toNatClampNeg) 0) = 0 → w_Learner_explainIte_39 Q a3 (xi u1 9 a1.toNatClampNeg) 2 u1) ∧ (¬ (lg_cmp (xl u1 41 a2.toNatClampNeg) 0) = 0 → w_Learner_explainIte_39 Q a3 (xi u1 9 a1.toNatClampNeg) 1 u1))))) (fun n u => Q (.inr n) u)) σ a2 1
set_option maxRecDepth 20000 in
theorem sw_Learner_explainIte_39 {γ : xG1} {d b0 : Nat} {Q : xO → xS → Prop} {a3 : Int64} {t2 : Int32} {t3 : Int32} {σ : xS} (h : w_Learner_explainIte_39 Q a3 t2 t3 σ) : xJ (SHP, γ) Y_Learner_explainIte (d + 1) b0 39 [(3, .long a3)] [.int t3, .int t2, .ref 10, .ref 42] σ Q := by
  refine xJ.iadd (o_Learner_explainIte 23 rfl) ?_
  refine xJ.iaload (o_Learner_explainIte 24 rfl) rfl h.1 ?_
  replace h := h.2
  refine xJ.lload_n (o_Learner_explainIte 25 rfl) rfl ?_
  refine xJ.callV (Y' := Y_Learner_ask) (o_Learner_explainIte 26 rfl) m_Learner_40 y_Learner_ask im_Learner_ask se_Learner_ask rfl rfl (s_Learner_ask h) rfl rfl (Nat.le_of_ble_eq_true rfl) (fun _ hx => by cases hx) (fun v u q => ?_) (fun n u q => q)
  obtain ⟨rfl, h⟩ := xqv_get q
  exact xJ.return_ (o_Learner_explainIte 27 rfl) rfl h
set_option maxRecDepth 20000 in
theorem s_Learner_explainIte {γ : xG1} {d : Nat} {Q : xO → xS → Prop} {σ : xS} {a1 : Int32} {a2 : Int32} {a3 : Int64} (h : wp_Learner_explainIte Q σ a1 a2 a3) : xM (SHP, γ) Y_Learner_explainIte (d + 1) [.ref 42, .int a1, .int a2, .long a3] σ Q := by
  refine xM.of (by decide) (Nat.le_of_ble_eq_true rfl) ?_
  refine xJ.aload_n (o_Learner_explainIte 0 rfl) rfl ?_
  refine xJ.iload_n (o_Learner_explainIte 1 rfl) rfl ?_
  refine xJ.lconst (v := 1) (o_Learner_explainIte 2 rfl) (by decide) ?_
  refine xJ.callV (Y' := Y_Learner_ask) (o_Learner_explainIte 3 rfl) m_Learner_40 y_Learner_ask im_Learner_ask se_Learner_ask rfl rfl (s_Learner_ask h) rfl rfl (Nat.le_of_ble_eq_true rfl) (fun _ hx => by cases hx) (fun v u q => ?_) (fun n u q => q)
  obtain ⟨rfl, h⟩ := xqv_get q
  refine xJ.aload_n (o_Learner_explainIte 4 rfl) rfl ?_
  refine xJ.aload_n (o_Learner_explainIte 5 rfl) rfl ?_
  refine xJ.getfield (o_Learner_explainIte 6 rfl) f_Learner_25 rfl rfl ?_
  refine xJ.getfield (o_Learner_explainIte 7 rfl) f_Learner_49 rfl rfl ?_
  refine xJ.aload_n (o_Learner_explainIte 8 rfl) rfl ?_
  refine xJ.getfield (o_Learner_explainIte 9 rfl) f_Learner_25 rfl rfl ?_
  refine xJ.getfield (o_Learner_explainIte 10 rfl) f_Learner_52 rfl rfl ?_
  refine xJ.iload_n (o_Learner_explainIte 11 rfl) rfl ?_
  refine xJ.iaload (o_Learner_explainIte 12 rfl) rfl h.1 ?_
  replace h := h.2
  refine xJ.aload_n (o_Learner_explainIte 13 rfl) rfl ?_
  refine xJ.getfield (o_Learner_explainIte 14 rfl) f_Learner_26 rfl rfl ?_
  refine xJ.iload_n (o_Learner_explainIte 15 rfl) rfl ?_
  refine xJ.laload (o_Learner_explainIte 16 rfl) rfl h.1 ?_
  replace h := h.2
  refine xJ.lconst (v := 0) (o_Learner_explainIte 17 rfl) (by decide) ?_
  refine xJ.lcmp (o_Learner_explainIte 18 rfl) ?_
  refine xJ.if_eq (tgt := 38) (o_Learner_explainIte 19 rfl) (by decide) (fun z => ?_) (fun z => ?_)
  · replace h := h.1 z
    refine xJ.iconst (v := 2) (o_Learner_explainIte 22 rfl) (by decide) ?_
    exact xJ.lvs (by exact ⟨rfl, trivial⟩) (sw_Learner_explainIte_39 h)
  · replace h := h.2 z
    refine xJ.iconst (v := 1) (o_Learner_explainIte 20 rfl) (by decide) ?_
    refine xJ.goto (tgt := 39) (o_Learner_explainIte 21 rfl) (by decide) ?_
    exact xJ.lvs (by exact ⟨rfl, trivial⟩) (sw_Learner_explainIte_39 h)
def w_Learner_explainDifference_58 (Q : xO → xS → Prop) (a1 : Int32) (a2 : Int32) (t0 : Int64) (σ : xS) : Prop :=
  wp_Learner_ask (xqv (fun u4 => wp_Learner_ask (xqv (fun u6 => Q (.inl none) u6) (fun n u => Q (.inr n) u)) u4 a2 t0) (fun n u => Q (.inr n) u)) σ a1 t0
def w_Learner_explainDifference_44 (Q : xO → xS → Prop) (a1 : Int32) (a2 : Int32) (a3 : Int64) (σ : xS) : Prop :=
  w_Learner_explainDifference_58 Q a1 a2 (a3 &&& (-a3)) σ
def wp_Learner_explainDifference (Q : xO → xS → Prop) (σ : xS) (a1 : Int32) (a2 : Int32) : Prop :=
  (vp_in a1 2000 ∧ (vp_in a2 2000 ∧ (∀ x1 : Int64, x1 = ((xl σ 41 a1.toNatClampNeg) ^^^ (xl σ 41 a2.toNatClampNeg)) → wp_Words_upToHighest (xql (fun r3 u2 => (vp_in a1 2000 ∧ ((¬ (xi u2 15 a1.toNatClampNeg) = 0 → w_Learner_explainDifference_44 Q a1 a2 x1 u2) ∧ ((xi u2 15 a1.toNatClampNeg) = 0 → (vp_in a2 2000 ∧ (((xi u2 15 a2.toNatClampNeg) = 0 → w_Learner_explainDifference_58 Q a1 a2 (r3 ^^^ (jlushr r3 1)) u2) ∧ (¬ (xi u2 15 a2.toNatClampNeg) = 0 → w_Learner_explainDifference_44 Q a1 a2 x1 u2))))))) (fun n u => Q (.inr n) u)) σ x1)))
set_option maxRecDepth 20000 in
theorem sw_Learner_explainDifference_58 {γ : xG1} {d b0 : Nat} {Q : xO → xS → Prop} {a1 : Int32} {a2 : Int32} {t0 : Int64} {σ : xS} (h : w_Learner_explainDifference_58 Q a1 a2 t0 σ) : xJ (SHP, γ) Y_Learner_explainDifference (d + 1) b0 58 [(0, .ref 42), (1, .int a1), (2, .int a2)] [.long t0] σ Q := by
  refine xJ.lstore (o_Learner_explainDifference 35 rfl) (by decide) ?_
  refine xJ.aload_n (o_Learner_explainDifference 36 rfl) rfl ?_
  refine xJ.iload_n (o_Learner_explainDifference 37 rfl) rfl ?_
  refine xJ.lload (o_Learner_explainDifference 38 rfl) rfl ?_
  refine xJ.callV (Y' := Y_Learner_ask) (o_Learner_explainDifference 39 rfl) m_Learner_40 y_Learner_ask im_Learner_ask se_Learner_ask rfl rfl (s_Learner_ask h) rfl rfl (Nat.le_of_ble_eq_true rfl) (fun _ hx => by cases hx) (fun v u q => ?_) (fun n u q => q)
  obtain ⟨rfl, h⟩ := xqv_get q
  refine xJ.aload_n (o_Learner_explainDifference 40 rfl) rfl ?_
  refine xJ.iload_n (o_Learner_explainDifference 41 rfl) rfl ?_
  refine xJ.lload (o_Learner_explainDifference 42 rfl) rfl ?_
  refine xJ.callV (Y' := Y_Learner_ask) (o_Learner_explainDifference 43 rfl) m_Learner_40 y_Learner_ask im_Learner_ask se_Learner_ask rfl rfl (s_Learner_ask h) rfl rfl (Nat.le_of_ble_eq_true rfl) (fun _ hx => by cases hx) (fun v u q => ?_) (fun n u q => q)
  obtain ⟨rfl, h⟩ := xqv_get q
  exact xJ.return_ (o_Learner_explainDifference 44 rfl) rfl h
set_option maxRecDepth 20000 in
theorem sw_Learner_explainDifference_44 {γ : xG1} {d b0 : Nat} {Q : xO → xS → Prop} {a1 : Int32} {a2 : Int32} {a3 : Int64} {σ : xS} (h : w_Learner_explainDifference_44 Q a1 a2 a3 σ) : xJ (SHP, γ) Y_Learner_explainDifference (d + 1) b0 44 [(0, .ref 42), (1, .int a1), (2, .int a2), (3, .long a3)] [] σ Q := by
  refine xJ.lload_n (o_Learner_explainDifference 25 rfl) rfl ?_
  refine xJ.lload_n (o_Learner_explainDifference 26 rfl) rfl ?_
  refine xJ.lneg (o_Learner_explainDifference 27 rfl) ?_
  refine xJ.land (o_Learner_explainDifference 28 rfl) ?_
  refine xJ.goto (tgt := 58) (o_Learner_explainDifference 29 rfl) (by decide) ?_
  exact xJ.lvs (by exact ⟨rfl, rfl, rfl, trivial⟩) (sw_Learner_explainDifference_58 h)
set_option maxRecDepth 20000 in
theorem s_Learner_explainDifference {γ : xG1} {d : Nat} {Q : xO → xS → Prop} {σ : xS} {a1 : Int32} {a2 : Int32} (h : wp_Learner_explainDifference Q σ a1 a2) : xM (SHP, γ) Y_Learner_explainDifference (d + 1) [.ref 42, .int a1, .int a2] σ Q := by
  refine xM.of (by decide) (Nat.le_of_ble_eq_true rfl) ?_
  refine xJ.aload_n (o_Learner_explainDifference 0 rfl) rfl ?_
  refine xJ.getfield (o_Learner_explainDifference 1 rfl) f_Learner_26 rfl rfl ?_
  refine xJ.iload_n (o_Learner_explainDifference 2 rfl) rfl ?_
  refine xJ.laload (o_Learner_explainDifference 3 rfl) rfl h.1 ?_
  replace h := h.2
  refine xJ.aload_n (o_Learner_explainDifference 4 rfl) rfl ?_
  refine xJ.getfield (o_Learner_explainDifference 5 rfl) f_Learner_26 rfl rfl ?_
  refine xJ.iload_n (o_Learner_explainDifference 6 rfl) rfl ?_
  refine xJ.laload (o_Learner_explainDifference 7 rfl) rfl h.1 ?_
  replace h := h.2
  refine xJ.lxor (o_Learner_explainDifference 8 rfl) ?_
  refine xJ.lstore_n (o_Learner_explainDifference 9 rfl) (by decide) ?_
  replace h := h _ rfl
  refine xJ.lload_n (o_Learner_explainDifference 10 rfl) rfl ?_
  refine xJ.callS (Y' := Y_Words_upToHighest) (o_Learner_explainDifference 11 rfl) m_Learner_91 y_Words_upToHighest st_Words_upToHighest (s_Words_upToHighest h) rfl rfl (Nat.le_of_ble_eq_true rfl) (fun _ hx => by cases hx) (fun v u q => ?_) (fun n u q => q)
  obtain ⟨r, rfl, h⟩ := xql_get q
  refine xJ.lstore (o_Learner_explainDifference 12 rfl) (by decide) ?_
  refine xJ.aload_n (o_Learner_explainDifference 13 rfl) rfl ?_
  refine xJ.getfield (o_Learner_explainDifference 14 rfl) f_Learner_25 rfl rfl ?_
  refine xJ.getfield (o_Learner_explainDifference 15 rfl) f_Learner_136 rfl rfl ?_
  refine xJ.iload_n (o_Learner_explainDifference 16 rfl) rfl ?_
  refine xJ.zaload (o_Learner_explainDifference 17 rfl) rfl h.1 ?_
  replace h := h.2
  refine xJ.if_ne (tgt := 44) (o_Learner_explainDifference 18 rfl) (by decide) (fun z => ?_) (fun z => ?_)
  · replace h := h.1 z
    exact xJ.lvs (by exact ⟨rfl, rfl, rfl, rfl, trivial⟩) (sw_Learner_explainDifference_44 h)
  · replace h := h.2 z
    refine xJ.aload_n (o_Learner_explainDifference 19 rfl) rfl ?_
    refine xJ.getfield (o_Learner_explainDifference 20 rfl) f_Learner_25 rfl rfl ?_
    refine xJ.getfield (o_Learner_explainDifference 21 rfl) f_Learner_136 rfl rfl ?_
    refine xJ.iload_n (o_Learner_explainDifference 22 rfl) rfl ?_
    refine xJ.zaload (o_Learner_explainDifference 23 rfl) rfl h.1 ?_
    replace h := h.2
    refine xJ.if_eq (tgt := 51) (o_Learner_explainDifference 24 rfl) (by decide) (fun z => ?_) (fun z => ?_)
    · replace h := h.1 z
      refine xJ.lload (o_Learner_explainDifference 30 rfl) rfl ?_
      refine xJ.lload (o_Learner_explainDifference 31 rfl) rfl ?_
      refine xJ.iconst (v := 1) (o_Learner_explainDifference 32 rfl) (by decide) ?_
      refine xJ.lushr (o_Learner_explainDifference 33 rfl) rfl ?_
      refine xJ.lxor (o_Learner_explainDifference 34 rfl) ?_
      exact xJ.lvs (by exact ⟨rfl, rfl, rfl, trivial⟩) (sw_Learner_explainDifference_58 h)
    · replace h := h.2 z
      exact xJ.lvs (by exact ⟨rfl, rfl, rfl, rfl, trivial⟩) (sw_Learner_explainDifference_44 h)
def w_Learner_explainEqual_38 (Q : xO → xS → Prop) : Nat → Int32 → Int32 → Int32 → xS → Prop
  | 0 => fun _ _ _ _ => False
  | n + 1 => fun a1 a2 a3 σ =>
    (vp_in (a1 + 1) 2001 ∧ (((xi σ 9 (a1 + 1).toNatClampNeg) ≤ a3 → Q (.inl none) σ) ∧ (¬ (xi σ 9 (a1 + 1).toNatClampNeg) ≤ a3 → (vp_in a3 80000 ∧ (vp_in (xi σ 10 a3.toNatClampNeg) 2000 ∧ (vp_in a2 2000 ∧ (((lg_cmp (xl σ 41 (xi σ 10 a3.toNatClampNeg).toNatClampNeg) (xl σ 41 a2.toNatClampNeg)) = 0 → (∀ x2 : Int32, x2 = a3 + 1 → w_Learner_explainEqual_38 Q n a1 a2 x2 σ)) ∧ (¬ (lg_cmp (xl σ 41 (xi σ 10 a3.toNatClampNeg).toNatClampNeg) (xl σ 41 a2.toNatClampNeg)) = 0 → (vp_in a3 80000 ∧ wp_Learner_explainDifference (xqv (fun u3 => Q (.inl none) u3) (fun n u => Q (.inr n) u)) σ a2 (xi σ 10 a3.toNatClampNeg))))))))))
def wp_Learner_explainEqual (Q : xO → xS → Prop) (σ : xS) (a1 : Int32) (a2 : Int32) : Prop :=
  (vp_in a1 2000 ∧ (((lg_cmp (xl σ 41 a1.toNatClampNeg) 0) = 0 → (vp_in a1 2001 ∧ (∀ x1 : Int32, x1 = ((xi σ 9 a1.toNatClampNeg) + 1) → ∃ m, w_Learner_explainEqual_38 Q m a1 a2 x1 σ))) ∧ (¬ (lg_cmp (xl σ 41 a1.toNatClampNeg) 0) = 0 → (vp_in a2 2000 ∧ wp_Learner_askAll (xqv (fun u5 => Q (.inl none) u5) (fun n u => Q (.inr n) u)) σ a1 (xl σ 13 a2.toNatClampNeg)))))
set_option maxRecDepth 20000 in
theorem sw_Learner_explainEqual_38 {γ : xG1} {d b0 : Nat} {Q : xO → xS → Prop} : ∀ (n : Nat) (a1 : Int32) (a2 : Int32) (a3 : Int32) (σ : xS), w_Learner_explainEqual_38 Q n a1 a2 a3 σ → xJ (SHP, γ) Y_Learner_explainEqual (d + 2) b0 38 [(0, .ref 42), (1, .int a1), (2, .int a2), (3, .int a3)] [] σ Q := by
  intro n
  induction n with
  | zero => intro a1 a2 a3 σ h; exact h.elim
  | succ n ih =>
    intro a1 a2 a3 σ h
    refine xJ.iload_n (o_Learner_explainEqual 24 rfl) rfl ?_
    refine xJ.aload_n (o_Learner_explainEqual 25 rfl) rfl ?_
    refine xJ.getfield (o_Learner_explainEqual 26 rfl) f_Learner_25 rfl rfl ?_
    refine xJ.getfield (o_Learner_explainEqual 27 rfl) f_Learner_52 rfl rfl ?_
    refine xJ.iload_n (o_Learner_explainEqual 28 rfl) rfl ?_
    refine xJ.iconst (v := 1) (o_Learner_explainEqual 29 rfl) (by decide) ?_
    refine xJ.iadd (o_Learner_explainEqual 30 rfl) ?_
    refine xJ.iaload (o_Learner_explainEqual 31 rfl) rfl h.1 ?_
    replace h := h.2
    refine xJ.icmp_ge (tgt := 98) (o_Learner_explainEqual 32 rfl) (by decide) (fun z => ?_) (fun z => ?_)
    · replace h := h.1 z
      exact xJ.return_ (o_Learner_explainEqual 58 rfl) rfl h
    · replace h := h.2 z
      refine xJ.aload_n (o_Learner_explainEqual 33 rfl) rfl ?_
      refine xJ.getfield (o_Learner_explainEqual 34 rfl) f_Learner_26 rfl rfl ?_
      refine xJ.aload_n (o_Learner_explainEqual 35 rfl) rfl ?_
      refine xJ.getfield (o_Learner_explainEqual 36 rfl) f_Learner_25 rfl rfl ?_
      refine xJ.getfield (o_Learner_explainEqual 37 rfl) f_Learner_49 rfl rfl ?_
      refine xJ.iload_n (o_Learner_explainEqual 38 rfl) rfl ?_
      refine xJ.iaload (o_Learner_explainEqual 39 rfl) rfl h.1 ?_
      replace h := h.2
      refine xJ.laload (o_Learner_explainEqual 40 rfl) rfl h.1 ?_
      replace h := h.2
      refine xJ.aload_n (o_Learner_explainEqual 41 rfl) rfl ?_
      refine xJ.getfield (o_Learner_explainEqual 42 rfl) f_Learner_26 rfl rfl ?_
      refine xJ.iload_n (o_Learner_explainEqual 43 rfl) rfl ?_
      refine xJ.laload (o_Learner_explainEqual 44 rfl) rfl h.1 ?_
      replace h := h.2
      refine xJ.lcmp (o_Learner_explainEqual 45 rfl) ?_
      refine xJ.if_eq (tgt := 92) (o_Learner_explainEqual 46 rfl) (by decide) (fun z => ?_) (fun z => ?_)
      · replace h := h.1 z
        refine xJ.iincC (w := 1) (o_Learner_explainEqual 56 rfl) rfl (by decide) (by decide) ?_
        replace h := h _ rfl
        refine xJ.goto (tgt := 38) (o_Learner_explainEqual 57 rfl) (by decide) ?_
        exact xJ.lvs (by exact ⟨rfl, rfl, rfl, rfl, trivial⟩) (ih _ _ _ _ h)
      · replace h := h.2 z
        refine xJ.aload_n (o_Learner_explainEqual 47 rfl) rfl ?_
        refine xJ.iload_n (o_Learner_explainEqual 48 rfl) rfl ?_
        refine xJ.aload_n (o_Learner_explainEqual 49 rfl) rfl ?_
        refine xJ.getfield (o_Learner_explainEqual 50 rfl) f_Learner_25 rfl rfl ?_
        refine xJ.getfield (o_Learner_explainEqual 51 rfl) f_Learner_49 rfl rfl ?_
        refine xJ.iload_n (o_Learner_explainEqual 52 rfl) rfl ?_
        refine xJ.iaload (o_Learner_explainEqual 53 rfl) rfl h.1 ?_
        replace h := h.2
        refine xJ.callV (Y' := Y_Learner_explainDifference) (o_Learner_explainEqual 54 rfl) m_Learner_133 y_Learner_explainDifference im_Learner_explainDifference se_Learner_explainDifference rfl rfl (s_Learner_explainDifference h) rfl rfl (Nat.le_of_ble_eq_true rfl) (fun _ hx => by cases hx) (fun v u q => ?_) (fun n u q => q)
        obtain ⟨rfl, h⟩ := xqv_get q
        exact xJ.return_ (o_Learner_explainEqual 55 rfl) rfl h
set_option maxRecDepth 20000 in
theorem s_Learner_explainEqual {γ : xG1} {d : Nat} {Q : xO → xS → Prop} {σ : xS} {a1 : Int32} {a2 : Int32} (h : wp_Learner_explainEqual Q σ a1 a2) : xM (SHP, γ) Y_Learner_explainEqual (d + 2) [.ref 42, .int a1, .int a2] σ Q := by
  refine xM.of (by decide) (Nat.le_of_ble_eq_true rfl) ?_
  refine xJ.aload_n (o_Learner_explainEqual 0 rfl) rfl ?_
  refine xJ.getfield (o_Learner_explainEqual 1 rfl) f_Learner_26 rfl rfl ?_
  refine xJ.iload_n (o_Learner_explainEqual 2 rfl) rfl ?_
  refine xJ.laload (o_Learner_explainEqual 3 rfl) rfl h.1 ?_
  replace h := h.2
  refine xJ.lconst (v := 0) (o_Learner_explainEqual 4 rfl) (by decide) ?_
  refine xJ.lcmp (o_Learner_explainEqual 5 rfl) ?_
  refine xJ.if_eq (tgt := 26) (o_Learner_explainEqual 6 rfl) (by decide) (fun z => ?_) (fun z => ?_)
  · replace h := h.1 z
    refine xJ.aload_n (o_Learner_explainEqual 16 rfl) rfl ?_
    refine xJ.getfield (o_Learner_explainEqual 17 rfl) f_Learner_25 rfl rfl ?_
    refine xJ.getfield (o_Learner_explainEqual 18 rfl) f_Learner_52 rfl rfl ?_
    refine xJ.iload_n (o_Learner_explainEqual 19 rfl) rfl ?_
    refine xJ.iaload (o_Learner_explainEqual 20 rfl) rfl h.1 ?_
    replace h := h.2
    refine xJ.iconst (v := 1) (o_Learner_explainEqual 21 rfl) (by decide) ?_
    refine xJ.iadd (o_Learner_explainEqual 22 rfl) ?_
    refine xJ.istore_n (o_Learner_explainEqual 23 rfl) (by decide) ?_
    replace h := h _ rfl
    obtain ⟨m, h⟩ := h
    exact xJ.lvs (by exact ⟨rfl, rfl, rfl, rfl, trivial⟩) (sw_Learner_explainEqual_38 m _ _ _ _ h)
  · replace h := h.2 z
    refine xJ.aload_n (o_Learner_explainEqual 7 rfl) rfl ?_
    refine xJ.iload_n (o_Learner_explainEqual 8 rfl) rfl ?_
    refine xJ.aload_n (o_Learner_explainEqual 9 rfl) rfl ?_
    refine xJ.getfield (o_Learner_explainEqual 10 rfl) f_Learner_25 rfl rfl ?_
    refine xJ.getfield (o_Learner_explainEqual 11 rfl) f_Learner_100 rfl rfl ?_
    refine xJ.iload_n (o_Learner_explainEqual 12 rfl) rfl ?_
    refine xJ.laload (o_Learner_explainEqual 13 rfl) rfl h.1 ?_
    replace h := h.2
    refine xJ.callV (Y' := Y_Learner_askAll) (o_Learner_explainEqual 14 rfl) m_Learner_74 y_Learner_askAll im_Learner_askAll se_Learner_askAll rfl rfl (s_Learner_askAll h) rfl rfl (Nat.le_of_ble_eq_true rfl) (fun _ hx => by cases hx) (fun v u q => ?_) (fun n u q => q)
    obtain ⟨rfl, h⟩ := xqv_get q
    exact xJ.return_ (o_Learner_explainEqual 15 rfl) rfl h
def w_Learner_explainDistinct_37 (Q : xO → xS → Prop) (K12 : Int32 → Int32 → xS → Prop) : Nat → Int32 → Int32 → Int32 → xS → Prop
  | 0 => fun _ _ _ _ => False
  | n + 1 => fun a1 a2 a3 σ =>
    ((a2 ≤ a3 → (∀ x3 : Int32, x3 = a2 + 1 → K12 a1 x3 σ)) ∧ (¬ a2 ≤ a3 → (vp_in a2 80000 ∧ (∀ x4 : Int32, x4 = (xi σ 10 a2.toNatClampNeg) → (vp_in a3 80000 ∧ (∀ x5 : Int32, x5 = (xi σ 10 a3.toNatClampNeg) → (vp_in a1 2000 ∧ (((lg_cmp (xl σ 41 a1.toNatClampNeg) 0) = 0 → (vp_in x4 2000 ∧ (vp_in x5 2000 ∧ ((¬ (lg_cmp (xl σ 41 x4.toNatClampNeg) (xl σ 41 x5.toNatClampNeg)) = 0 → (∀ x6 : Int32, x6 = a3 + 1 → w_Learner_explainDistinct_37 Q K12 n a1 a2 x6 σ)) ∧ ((lg_cmp (xl σ 41 x4.toNatClampNeg) (xl σ 41 x5.toNatClampNeg)) = 0 → (vp_in x4 2000 ∧ wp_Learner_ask (xqv (fun u7 => (vp_in x5 2000 ∧ wp_Learner_ask (xqv (fun u9 => Q (.inl none) u9) (fun n u => Q (.inr n) u)) u7 x5 (xl u7 13 x5.toNatClampNeg))) (fun n u => Q (.inr n) u)) σ x4 (xl σ 13 x4.toNatClampNeg))))))) ∧ (¬ (lg_cmp (xl σ 41 a1.toNatClampNeg) 0) = 0 → wp_Learner_explainDifference (xqv (fun u11 => (∀ x13 : Int32, x13 = a3 + 1 → w_Learner_explainDistinct_37 Q K12 n a1 a2 x13 u11)) (fun n u => Q (.inr n) u)) σ x4 x5)))))))))
def w_Learner_explainDistinct_12 (Q : xO → xS → Prop) : Nat → Int32 → Int32 → xS → Prop
  | 0 => fun _ _ _ => False
  | n + 1 => fun a1 a2 σ =>
    (vp_in (a1 + 1) 2001 ∧ (((xi σ 9 (a1 + 1).toNatClampNeg) ≤ a2 → Q (.inl none) σ) ∧ (¬ (xi σ 9 (a1 + 1).toNatClampNeg) ≤ a2 → (vp_in a1 2001 ∧ (∀ x2 : Int32, x2 = (xi σ 9 a1.toNatClampNeg) → ∃ m, w_Learner_explainDistinct_37 Q (w_Learner_explainDistinct_12 Q n) m a1 a2 x2 σ)))))
def wp_Learner_explainDistinct (Q : xO → xS → Prop) (σ : xS) (a1 : Int32) : Prop :=
  (vp_in a1 2001 ∧ (∀ x1 : Int32, x1 = ((xi σ 9 a1.toNatClampNeg) + 1) → ∃ m, w_Learner_explainDistinct_12 Q m a1 x1 σ))
set_option maxRecDepth 20000 in
theorem sw_Learner_explainDistinct_37 {γ : xG1} {d b0 : Nat} {Q : xO → xS → Prop} {K12 : Int32 → Int32 → xS → Prop} (hK12 : ∀ a1 a2 σ, K12 a1 a2 σ → xJ (SHP, γ) Y_Learner_explainDistinct (d + 2) b0 12 [(0, .ref 42), (1, .int a1), (2, .int a2)] [] σ Q) : ∀ (n : Nat) (a1 : Int32) (a2 : Int32) (a3 : Int32) (σ : xS), w_Learner_explainDistinct_37 Q K12 n a1 a2 a3 σ → xJ (SHP, γ) Y_Learner_explainDistinct (d + 2) b0 37 [(0, .ref 42), (1, .int a1), (2, .int a2), (3, .int a3)] [] σ Q := by
  intro n
  induction n with
  | zero => intro a1 a2 a3 σ h; exact h.elim
  | succ n ih =>
    intro a1 a2 a3 σ h
    refine xJ.iload_n (o_Learner_explainDistinct 23 rfl) rfl ?_
    refine xJ.iload_n (o_Learner_explainDistinct 24 rfl) rfl ?_
    refine xJ.icmp_ge (tgt := 143) (o_Learner_explainDistinct 25 rfl) (by decide) (fun z => ?_) (fun z => ?_)
    · replace h := h.1 z
      refine xJ.iincC (w := 1) (o_Learner_explainDistinct 79 rfl) rfl (by decide) (by decide) ?_
      replace h := h _ rfl
      refine xJ.goto (tgt := 12) (o_Learner_explainDistinct 80 rfl) (by decide) ?_
      exact xJ.lvs (by exact ⟨rfl, rfl, rfl, trivial⟩) (hK12 _ _ _ h)
    · replace h := h.2 z
      refine xJ.aload_n (o_Learner_explainDistinct 26 rfl) rfl ?_
      refine xJ.getfield (o_Learner_explainDistinct 27 rfl) f_Learner_25 rfl rfl ?_
      refine xJ.getfield (o_Learner_explainDistinct 28 rfl) f_Learner_49 rfl rfl ?_
      refine xJ.iload_n (o_Learner_explainDistinct 29 rfl) rfl ?_
      refine xJ.iaload (o_Learner_explainDistinct 30 rfl) rfl h.1 ?_
      replace h := h.2
      refine xJ.istore (o_Learner_explainDistinct 31 rfl) (by decide) ?_
      replace h := h _ rfl
      refine xJ.aload_n (o_Learner_explainDistinct 32 rfl) rfl ?_
      refine xJ.getfield (o_Learner_explainDistinct 33 rfl) f_Learner_25 rfl rfl ?_
      refine xJ.getfield (o_Learner_explainDistinct 34 rfl) f_Learner_49 rfl rfl ?_
      refine xJ.iload_n (o_Learner_explainDistinct 35 rfl) rfl ?_
      refine xJ.iaload (o_Learner_explainDistinct 36 rfl) rfl h.1 ?_
      replace h := h.2
      refine xJ.istore (o_Learner_explainDistinct 37 rfl) (by decide) ?_
      replace h := h _ rfl
      refine xJ.aload_n (o_Learner_explainDistinct 38 rfl) rfl ?_
      refine xJ.getfield (o_Learner_explainDistinct 39 rfl) f_Learner_26 rfl rfl ?_
      refine xJ.iload_n (o_Learner_explainDistinct 40 rfl) rfl ?_
      refine xJ.laload (o_Learner_explainDistinct 41 rfl) rfl h.1 ?_
      replace h := h.2
      refine xJ.lconst (v := 0) (o_Learner_explainDistinct 42 rfl) (by decide) ?_
      refine xJ.lcmp (o_Learner_explainDistinct 43 rfl) ?_
      refine xJ.if_eq (tgt := 86) (o_Learner_explainDistinct 44 rfl) (by decide) (fun z => ?_) (fun z => ?_)
      · replace h := h.1 z
        refine xJ.aload_n (o_Learner_explainDistinct 50 rfl) rfl ?_
        refine xJ.getfield (o_Learner_explainDistinct 51 rfl) f_Learner_26 rfl rfl ?_
        refine xJ.iload (o_Learner_explainDistinct 52 rfl) rfl ?_
        refine xJ.laload (o_Learner_explainDistinct 53 rfl) rfl h.1 ?_
        replace h := h.2
        refine xJ.aload_n (o_Learner_explainDistinct 54 rfl) rfl ?_
        refine xJ.getfield (o_Learner_explainDistinct 55 rfl) f_Learner_26 rfl rfl ?_
        refine xJ.iload (o_Learner_explainDistinct 56 rfl) rfl ?_
        refine xJ.laload (o_Learner_explainDistinct 57 rfl) rfl h.1 ?_
        replace h := h.2
        refine xJ.lcmp (o_Learner_explainDistinct 58 rfl) ?_
        refine xJ.if_ne (tgt := 137) (o_Learner_explainDistinct 59 rfl) (by decide) (fun z => ?_) (fun z => ?_)
        · replace h := h.1 z
          refine xJ.iincC (w := 1) (o_Learner_explainDistinct 77 rfl) rfl (by decide) (by decide) ?_
          replace h := h _ rfl
          refine xJ.goto (tgt := 37) (o_Learner_explainDistinct 78 rfl) (by decide) ?_
          exact xJ.lvs (by exact ⟨rfl, rfl, rfl, rfl, trivial⟩) (ih _ _ _ _ h)
        · replace h := h.2 z
          refine xJ.aload_n (o_Learner_explainDistinct 60 rfl) rfl ?_
          refine xJ.iload (o_Learner_explainDistinct 61 rfl) rfl ?_
          refine xJ.aload_n (o_Learner_explainDistinct 62 rfl) rfl ?_
          refine xJ.getfield (o_Learner_explainDistinct 63 rfl) f_Learner_25 rfl rfl ?_
          refine xJ.getfield (o_Learner_explainDistinct 64 rfl) f_Learner_100 rfl rfl ?_
          refine xJ.iload (o_Learner_explainDistinct 65 rfl) rfl ?_
          refine xJ.laload (o_Learner_explainDistinct 66 rfl) rfl h.1 ?_
          replace h := h.2
          refine xJ.callV (Y' := Y_Learner_ask) (o_Learner_explainDistinct 67 rfl) m_Learner_40 y_Learner_ask im_Learner_ask se_Learner_ask rfl rfl (s_Learner_ask h) rfl rfl (Nat.le_of_ble_eq_true rfl) (fun _ hx => by cases hx) (fun v u q => ?_) (fun n u q => q)
          obtain ⟨rfl, h⟩ := xqv_get q
          refine xJ.aload_n (o_Learner_explainDistinct 68 rfl) rfl ?_
          refine xJ.iload (o_Learner_explainDistinct 69 rfl) rfl ?_
          refine xJ.aload_n (o_Learner_explainDistinct 70 rfl) rfl ?_
          refine xJ.getfield (o_Learner_explainDistinct 71 rfl) f_Learner_25 rfl rfl ?_
          refine xJ.getfield (o_Learner_explainDistinct 72 rfl) f_Learner_100 rfl rfl ?_
          refine xJ.iload (o_Learner_explainDistinct 73 rfl) rfl ?_
          refine xJ.laload (o_Learner_explainDistinct 74 rfl) rfl h.1 ?_
          replace h := h.2
          refine xJ.callV (Y' := Y_Learner_ask) (o_Learner_explainDistinct 75 rfl) m_Learner_40 y_Learner_ask im_Learner_ask se_Learner_ask rfl rfl (s_Learner_ask h) rfl rfl (Nat.le_of_ble_eq_true rfl) (fun _ hx => by cases hx) (fun v u q => ?_) (fun n u q => q)
          obtain ⟨rfl, h⟩ := xqv_get q
          exact xJ.return_ (o_Learner_explainDistinct 76 rfl) rfl h
      · replace h := h.2 z
        refine xJ.aload_n (o_Learner_explainDistinct 45 rfl) rfl ?_
        refine xJ.iload (o_Learner_explainDistinct 46 rfl) rfl ?_
        refine xJ.iload (o_Learner_explainDistinct 47 rfl) rfl ?_
        refine xJ.callV (Y' := Y_Learner_explainDifference) (o_Learner_explainDistinct 48 rfl) m_Learner_133 y_Learner_explainDifference im_Learner_explainDifference se_Learner_explainDifference rfl rfl (s_Learner_explainDifference h) rfl rfl (Nat.le_of_ble_eq_true rfl) (fun _ hx => by cases hx) (fun v u q => ?_) (fun n u q => q)
        obtain ⟨rfl, h⟩ := xqv_get q
        refine xJ.goto (tgt := 137) (o_Learner_explainDistinct 49 rfl) (by decide) ?_
        refine xJ.iincC (w := 1) (o_Learner_explainDistinct 77 rfl) rfl (by decide) (by decide) ?_
        replace h := h _ rfl
        refine xJ.goto (tgt := 37) (o_Learner_explainDistinct 78 rfl) (by decide) ?_
        exact xJ.lvs (by exact ⟨rfl, rfl, rfl, rfl, trivial⟩) (ih _ _ _ _ h)
set_option maxRecDepth 20000 in
theorem sw_Learner_explainDistinct_12 {γ : xG1} {d b0 : Nat} {Q : xO → xS → Prop} : ∀ (n : Nat) (a1 : Int32) (a2 : Int32) (σ : xS), w_Learner_explainDistinct_12 Q n a1 a2 σ → xJ (SHP, γ) Y_Learner_explainDistinct (d + 2) b0 12 [(0, .ref 42), (1, .int a1), (2, .int a2)] [] σ Q := by
  intro n
  induction n with
  | zero => intro a1 a2 σ h; exact h.elim
  | succ n ih =>
    intro a1 a2 σ h
    refine xJ.iload_n (o_Learner_explainDistinct 8 rfl) rfl ?_
    refine xJ.aload_n (o_Learner_explainDistinct 9 rfl) rfl ?_
    refine xJ.getfield (o_Learner_explainDistinct 10 rfl) f_Learner_25 rfl rfl ?_
    refine xJ.getfield (o_Learner_explainDistinct 11 rfl) f_Learner_52 rfl rfl ?_
    refine xJ.iload_n (o_Learner_explainDistinct 12 rfl) rfl ?_
    refine xJ.iconst (v := 1) (o_Learner_explainDistinct 13 rfl) (by decide) ?_
    refine xJ.iadd (o_Learner_explainDistinct 14 rfl) ?_
    refine xJ.iaload (o_Learner_explainDistinct 15 rfl) rfl h.1 ?_
    replace h := h.2
    refine xJ.icmp_ge (tgt := 149) (o_Learner_explainDistinct 16 rfl) (by decide) (fun z => ?_) (fun z => ?_)
    · replace h := h.1 z
      exact xJ.return_ (o_Learner_explainDistinct 81 rfl) rfl h
    · replace h := h.2 z
      refine xJ.aload_n (o_Learner_explainDistinct 17 rfl) rfl ?_
      refine xJ.getfield (o_Learner_explainDistinct 18 rfl) f_Learner_25 rfl rfl ?_
      refine xJ.getfield (o_Learner_explainDistinct 19 rfl) f_Learner_52 rfl rfl ?_
      refine xJ.iload_n (o_Learner_explainDistinct 20 rfl) rfl ?_
      refine xJ.iaload (o_Learner_explainDistinct 21 rfl) rfl h.1 ?_
      replace h := h.2
      refine xJ.istore_n (o_Learner_explainDistinct 22 rfl) (by decide) ?_
      replace h := h _ rfl
      obtain ⟨m, h⟩ := h
      exact xJ.lvs (by exact ⟨rfl, rfl, rfl, rfl, trivial⟩) (sw_Learner_explainDistinct_37 ih m _ _ _ _ h)
set_option maxRecDepth 20000 in
theorem s_Learner_explainDistinct {γ : xG1} {d : Nat} {Q : xO → xS → Prop} {σ : xS} {a1 : Int32} (h : wp_Learner_explainDistinct Q σ a1) : xM (SHP, γ) Y_Learner_explainDistinct (d + 2) [.ref 42, .int a1] σ Q := by
  refine xM.of (by decide) (Nat.le_of_ble_eq_true rfl) ?_
  refine xJ.aload_n (o_Learner_explainDistinct 0 rfl) rfl ?_
  refine xJ.getfield (o_Learner_explainDistinct 1 rfl) f_Learner_25 rfl rfl ?_
  refine xJ.getfield (o_Learner_explainDistinct 2 rfl) f_Learner_52 rfl rfl ?_
  refine xJ.iload_n (o_Learner_explainDistinct 3 rfl) rfl ?_
  refine xJ.iaload (o_Learner_explainDistinct 4 rfl) rfl h.1 ?_
  replace h := h.2
  refine xJ.iconst (v := 1) (o_Learner_explainDistinct 5 rfl) (by decide) ?_
  refine xJ.iadd (o_Learner_explainDistinct 6 rfl) ?_
  refine xJ.istore_n (o_Learner_explainDistinct 7 rfl) (by decide) ?_
  replace h := h _ rfl
  obtain ⟨m, h⟩ := h
  exact xJ.lvs (by exact ⟨rfl, rfl, rfl, trivial⟩) (sw_Learner_explainDistinct_12 m _ _ _ h)
def w_Learner_explainProduct_14 (Q : xO → xS → Prop) : Nat → Int32 → Int64 → Int32 → Int32 → xS → Prop
  | 0 => fun _ _ _ _ _ => False
  | n + 1 => fun a1 a2 a4 a5 σ =>
    (vp_in (a1 + 1) 2001 ∧ (((xi σ 9 (a1 + 1).toNatClampNeg) ≤ a5 → ((a4 = (-1) → wp_Learner_askAll (xqv (fun u3 => Q (.inl none) u3) (fun n u => Q (.inr n) u)) σ a1 a2) ∧ (¬ a4 = (-1) → wp_Learner_ask (xqv (fun u5 => Q (.inl none) u5) (fun n u => Q (.inr n) u)) σ a4 a2))) ∧ (¬ (xi σ 9 (a1 + 1).toNatClampNeg) ≤ a5 → (vp_in a5 80000 ∧ (∀ x7 : Int32, x7 = (xi σ 10 a5.toNatClampNeg) → (vp_in x7 2000 ∧ ((¬ (lg_cmp ((xl σ 41 x7.toNatClampNeg) &&& a2) 0) = 0 → (∀ x8 : Int32, x8 = a5 + 1 → w_Learner_explainProduct_14 Q n a1 a2 a4 x8 σ)) ∧ ((lg_cmp ((xl σ 41 x7.toNatClampNeg) &&& a2) 0) = 0 → wp_Learner_isBetter (xqi (fun r10 u9 => ((r10 = 0 → (∀ x11 : Int32, x11 = a5 + 1 → w_Learner_explainProduct_14 Q n a1 a2 a4 x11 u9)) ∧ (¬ r10 = 0 → (∀ x12 : Int32, x12 = a5 + 1 → w_Learner_explainProduct_14 Q n a1 a2 x7 x12 u9)))) (fun n u => Q (.inr n) u)) σ x7 a4))))))))
def wp_Learner_explainProduct (Q : xO → xS → Prop) (σ : xS) (a1 : Int32) (a2 : Int64) : Prop :=
  (∀ x1 : Int32, x1 = (-1) → (vp_in a1 2001 ∧ (∀ x2 : Int32, x2 = (xi σ 9 a1.toNatClampNeg) → ∃ m, w_Learner_explainProduct_14 Q m a1 a2 x1 x2 σ)))
set_option maxRecDepth 20000 in
theorem sw_Learner_explainProduct_14 {γ : xG1} {d b0 : Nat} {Q : xO → xS → Prop} : ∀ (n : Nat) (a1 : Int32) (a2 : Int64) (a4 : Int32) (a5 : Int32) (σ : xS), w_Learner_explainProduct_14 Q n a1 a2 a4 a5 σ → xJ (SHP, γ) Y_Learner_explainProduct (d + 3) b0 14 [(0, .ref 42), (1, .int a1), (2, .long a2), (4, .int a4), (5, .int a5)] [] σ Q := by
  intro n
  induction n with
  | zero => intro a1 a2 a4 a5 σ h; exact h.elim
  | succ n ih =>
    intro a1 a2 a4 a5 σ h
    refine xJ.iload (o_Learner_explainProduct 8 rfl) rfl ?_
    refine xJ.aload_n (o_Learner_explainProduct 9 rfl) rfl ?_
    refine xJ.getfield (o_Learner_explainProduct 10 rfl) f_Learner_25 rfl rfl ?_
    refine xJ.getfield (o_Learner_explainProduct 11 rfl) f_Learner_52 rfl rfl ?_
    refine xJ.iload_n (o_Learner_explainProduct 12 rfl) rfl ?_
    refine xJ.iconst (v := 1) (o_Learner_explainProduct 13 rfl) (by decide) ?_
    refine xJ.iadd (o_Learner_explainProduct 14 rfl) ?_
    refine xJ.iaload (o_Learner_explainProduct 15 rfl) rfl h.1 ?_
    replace h := h.2
    refine xJ.icmp_ge (tgt := 77) (o_Learner_explainProduct 16 rfl) (by decide) (fun z => ?_) (fun z => ?_)
    · replace h := h.1 z
      refine xJ.iload (o_Learner_explainProduct 41 rfl) rfl ?_
      refine xJ.iconst (v := (-1)) (o_Learner_explainProduct 42 rfl) (by decide) ?_
      refine xJ.icmp_eq (tgt := 93) (o_Learner_explainProduct 43 rfl) (by decide) (fun z => ?_) (fun z => ?_)
      · replace h := h.1 z
        refine xJ.aload_n (o_Learner_explainProduct 49 rfl) rfl ?_
        refine xJ.iload_n (o_Learner_explainProduct 50 rfl) rfl ?_
        refine xJ.lload_n (o_Learner_explainProduct 51 rfl) rfl ?_
        refine xJ.callV (Y' := Y_Learner_askAll) (o_Learner_explainProduct 52 rfl) m_Learner_74 y_Learner_askAll im_Learner_askAll se_Learner_askAll rfl rfl (s_Learner_askAll h) rfl rfl (Nat.le_of_ble_eq_true rfl) (fun _ hx => by cases hx) (fun v u q => ?_) (fun n u q => q)
        obtain ⟨rfl, h⟩ := xqv_get q
        exact xJ.return_ (o_Learner_explainProduct 53 rfl) rfl h
      · replace h := h.2 z
        refine xJ.aload_n (o_Learner_explainProduct 44 rfl) rfl ?_
        refine xJ.iload (o_Learner_explainProduct 45 rfl) rfl ?_
        refine xJ.lload_n (o_Learner_explainProduct 46 rfl) rfl ?_
        refine xJ.callV (Y' := Y_Learner_ask) (o_Learner_explainProduct 47 rfl) m_Learner_40 y_Learner_ask im_Learner_ask se_Learner_ask rfl rfl (s_Learner_ask h) rfl rfl (Nat.le_of_ble_eq_true rfl) (fun _ hx => by cases hx) (fun v u q => ?_) (fun n u q => q)
        obtain ⟨rfl, h⟩ := xqv_get q
        refine xJ.goto (tgt := 99) (o_Learner_explainProduct 48 rfl) (by decide) ?_
        exact xJ.return_ (o_Learner_explainProduct 53 rfl) rfl h
    · replace h := h.2 z
      refine xJ.aload_n (o_Learner_explainProduct 17 rfl) rfl ?_
      refine xJ.getfield (o_Learner_explainProduct 18 rfl) f_Learner_25 rfl rfl ?_
      refine xJ.getfield (o_Learner_explainProduct 19 rfl) f_Learner_49 rfl rfl ?_
      refine xJ.iload (o_Learner_explainProduct 20 rfl) rfl ?_
      refine xJ.iaload (o_Learner_explainProduct 21 rfl) rfl h.1 ?_
      replace h := h.2
      refine xJ.istore (o_Learner_explainProduct 22 rfl) (by decide) ?_
      replace h := h _ rfl
      refine xJ.aload_n (o_Learner_explainProduct 23 rfl) rfl ?_
      refine xJ.getfield (o_Learner_explainProduct 24 rfl) f_Learner_26 rfl rfl ?_
      refine xJ.iload (o_Learner_explainProduct 25 rfl) rfl ?_
      refine xJ.laload (o_Learner_explainProduct 26 rfl) rfl h.1 ?_
      replace h := h.2
      refine xJ.lload_n (o_Learner_explainProduct 27 rfl) rfl ?_
      refine xJ.land (o_Learner_explainProduct 28 rfl) ?_
      refine xJ.lconst (v := 0) (o_Learner_explainProduct 29 rfl) (by decide) ?_
      refine xJ.lcmp (o_Learner_explainProduct 30 rfl) ?_
      refine xJ.if_ne (tgt := 71) (o_Learner_explainProduct 31 rfl) (by decide) (fun z => ?_) (fun z => ?_)
      · replace h := h.1 z
        refine xJ.iincC (w := 1) (o_Learner_explainProduct 39 rfl) rfl (by decide) (by decide) ?_
        replace h := h _ rfl
        refine xJ.goto (tgt := 14) (o_Learner_explainProduct 40 rfl) (by decide) ?_
        exact xJ.lvs (by exact ⟨rfl, rfl, rfl, rfl, rfl, trivial⟩) (ih _ _ _ _ _ h)
      · replace h := h.2 z
        refine xJ.aload_n (o_Learner_explainProduct 32 rfl) rfl ?_
        refine xJ.iload (o_Learner_explainProduct 33 rfl) rfl ?_
        refine xJ.iload (o_Learner_explainProduct 34 rfl) rfl ?_
        refine xJ.callV (Y' := Y_Learner_isBetter) (o_Learner_explainProduct 35 rfl) m_Learner_125 y_Learner_isBetter im_Learner_isBetter se_Learner_isBetter rfl rfl (s_Learner_isBetter h) rfl rfl (Nat.le_of_ble_eq_true rfl) (fun _ hx => by cases hx) (fun v u q => ?_) (fun n u q => q)
        obtain ⟨r, rfl, h⟩ := xqi_get q
        refine xJ.if_eq (tgt := 71) (o_Learner_explainProduct 36 rfl) (by decide) (fun z => ?_) (fun z => ?_)
        · replace h := h.1 z
          refine xJ.iincC (w := 1) (o_Learner_explainProduct 39 rfl) rfl (by decide) (by decide) ?_
          replace h := h _ rfl
          refine xJ.goto (tgt := 14) (o_Learner_explainProduct 40 rfl) (by decide) ?_
          exact xJ.lvs (by exact ⟨rfl, rfl, rfl, rfl, rfl, trivial⟩) (ih _ _ _ _ _ h)
        · replace h := h.2 z
          refine xJ.iload (o_Learner_explainProduct 37 rfl) rfl ?_
          refine xJ.istore (o_Learner_explainProduct 38 rfl) (by decide) ?_
          refine xJ.iincC (w := 1) (o_Learner_explainProduct 39 rfl) rfl (by decide) (by decide) ?_
          replace h := h _ rfl
          refine xJ.goto (tgt := 14) (o_Learner_explainProduct 40 rfl) (by decide) ?_
          exact xJ.lvs (by exact ⟨rfl, rfl, rfl, rfl, rfl, trivial⟩) (ih _ _ _ _ _ h)
set_option maxRecDepth 20000 in
theorem s_Learner_explainProduct {γ : xG1} {d : Nat} {Q : xO → xS → Prop} {σ : xS} {a1 : Int32} {a2 : Int64} (h : wp_Learner_explainProduct Q σ a1 a2) : xM (SHP, γ) Y_Learner_explainProduct (d + 3) [.ref 42, .int a1, .long a2] σ Q := by
  refine xM.of (by decide) (Nat.le_of_ble_eq_true rfl) ?_
  refine xJ.iconst (v := (-1)) (o_Learner_explainProduct 0 rfl) (by decide) ?_
  refine xJ.istore (o_Learner_explainProduct 1 rfl) (by decide) ?_
  replace h := h _ rfl
  refine xJ.aload_n (o_Learner_explainProduct 2 rfl) rfl ?_
  refine xJ.getfield (o_Learner_explainProduct 3 rfl) f_Learner_25 rfl rfl ?_
  refine xJ.getfield (o_Learner_explainProduct 4 rfl) f_Learner_52 rfl rfl ?_
  refine xJ.iload_n (o_Learner_explainProduct 5 rfl) rfl ?_
  refine xJ.iaload (o_Learner_explainProduct 6 rfl) rfl h.1 ?_
  replace h := h.2
  refine xJ.istore (o_Learner_explainProduct 7 rfl) (by decide) ?_
  replace h := h _ rfl
  obtain ⟨m, h⟩ := h
  exact xJ.lvs (by exact ⟨rfl, rfl, rfl, rfl, rfl, trivial⟩) (sw_Learner_explainProduct_14 m _ _ _ _ _ h)
def w_Learner_explainShift_107 (Q : xO → xS → Prop) (t1 : Int32) (t2 : Int64) (σ : xS) : Prop :=
  wp_Learner_ask (xqv (fun u7 => Q (.inl none) u7) (fun n u => Q (.inr n) u)) σ t1 t2
def wp_Learner_explainShift (Q : xO → xS → Prop) (σ : xS) (a1 : Int32) (a2 : Int32) (a3 : Int64) : Prop :=
  (vp_in a1 2001 ∧ (vp_in ((xi σ 9 a1.toNatClampNeg) + 1) 80000 ∧ (∀ x1 : Int32, x1 = (xi σ 10 ((xi σ 9 a1.toNatClampNeg) + 1).toNatClampNeg) → (vp_in x1 2000 ∧ wp_Learner_ask (xqv (fun u2 => (vp_in x1 2000 ∧ (vp_in a2 2000 ∧ wp_Words_less (xqi (fun r5 u4 => ((r5 = 0 → Q (.inl none) u4) ∧ (¬ r5 = 0 → (vp_in x1 2000 ∧ (∀ x6 : Int32, x6 = (xl u4 41 x1.toNatClampNeg).toInt32 → (vp_in a1 2000 ∧ ((¬ (xi u4 7 a1.toNatClampNeg) = 33 → (vp_in a2 2000 ∧ w_Learner_explainShift_107 Q a2 ((jlshl a3 x6) &&& (xl u4 13 a2.toNatClampNeg)) u4)) ∧ ((xi u4 7 a1.toNatClampNeg) = 33 → w_Learner_explainShift_107 Q a2 (jlushr a3 x6) u4)))))))) (fun n u => Q (.inr n) u)) u2 (xl u2 41 x1.toNatClampNeg) ((xi u2 8 a2.toNatClampNeg).toInt64)))) (fun n u => Q (.inr n) u)) σ x1 (xl σ 13 x1.toNatClampNeg)))))
set_option maxRecDepth 20000 in
theorem sw_Learner_explainShift_107 {γ : xG1} {d b0 : Nat} {Q : xO → xS → Prop} {t1 : Int32} {t2 : Int64} {σ : xS} (h : w_Learner_explainShift_107 Q t1 t2 σ) : xJ (SHP, γ) Y_Learner_explainShift (d + 1) b0 107 [] [.long t2, .int t1, .ref 42] σ Q := by
  refine xJ.callV (Y' := Y_Learner_ask) (o_Learner_explainShift 60 rfl) m_Learner_40 y_Learner_ask im_Learner_ask se_Learner_ask rfl rfl (s_Learner_ask h) rfl rfl (Nat.le_of_ble_eq_true rfl) (fun _ hx => by cases hx) (fun v u q => ?_) (fun n u q => q)
  obtain ⟨rfl, h⟩ := xqv_get q
  exact xJ.return_ (o_Learner_explainShift 61 rfl) rfl h
set_option maxRecDepth 20000 in
theorem s_Learner_explainShift {γ : xG1} {d : Nat} {Q : xO → xS → Prop} {σ : xS} {a1 : Int32} {a2 : Int32} {a3 : Int64} (h : wp_Learner_explainShift Q σ a1 a2 a3) : xM (SHP, γ) Y_Learner_explainShift (d + 1) [.ref 42, .int a1, .int a2, .long a3] σ Q := by
  refine xM.of (by decide) (Nat.le_of_ble_eq_true rfl) ?_
  refine xJ.aload_n (o_Learner_explainShift 0 rfl) rfl ?_
  refine xJ.getfield (o_Learner_explainShift 1 rfl) f_Learner_25 rfl rfl ?_
  refine xJ.getfield (o_Learner_explainShift 2 rfl) f_Learner_49 rfl rfl ?_
  refine xJ.aload_n (o_Learner_explainShift 3 rfl) rfl ?_
  refine xJ.getfield (o_Learner_explainShift 4 rfl) f_Learner_25 rfl rfl ?_
  refine xJ.getfield (o_Learner_explainShift 5 rfl) f_Learner_52 rfl rfl ?_
  refine xJ.iload_n (o_Learner_explainShift 6 rfl) rfl ?_
  refine xJ.iaload (o_Learner_explainShift 7 rfl) rfl h.1 ?_
  replace h := h.2
  refine xJ.iconst (v := 1) (o_Learner_explainShift 8 rfl) (by decide) ?_
  refine xJ.iadd (o_Learner_explainShift 9 rfl) ?_
  refine xJ.iaload (o_Learner_explainShift 10 rfl) rfl h.1 ?_
  replace h := h.2
  refine xJ.istore (o_Learner_explainShift 11 rfl) (by decide) ?_
  replace h := h _ rfl
  refine xJ.aload_n (o_Learner_explainShift 12 rfl) rfl ?_
  refine xJ.iload (o_Learner_explainShift 13 rfl) rfl ?_
  refine xJ.aload_n (o_Learner_explainShift 14 rfl) rfl ?_
  refine xJ.getfield (o_Learner_explainShift 15 rfl) f_Learner_25 rfl rfl ?_
  refine xJ.getfield (o_Learner_explainShift 16 rfl) f_Learner_100 rfl rfl ?_
  refine xJ.iload (o_Learner_explainShift 17 rfl) rfl ?_
  refine xJ.laload (o_Learner_explainShift 18 rfl) rfl h.1 ?_
  replace h := h.2
  refine xJ.callV (Y' := Y_Learner_ask) (o_Learner_explainShift 19 rfl) m_Learner_40 y_Learner_ask im_Learner_ask se_Learner_ask rfl rfl (s_Learner_ask h) rfl rfl (Nat.le_of_ble_eq_true rfl) (fun _ hx => by cases hx) (fun v u q => ?_) (fun n u q => q)
  obtain ⟨rfl, h⟩ := xqv_get q
  refine xJ.aload_n (o_Learner_explainShift 20 rfl) rfl ?_
  refine xJ.getfield (o_Learner_explainShift 21 rfl) f_Learner_26 rfl rfl ?_
  refine xJ.iload (o_Learner_explainShift 22 rfl) rfl ?_
  refine xJ.laload (o_Learner_explainShift 23 rfl) rfl h.1 ?_
  replace h := h.2
  refine xJ.aload_n (o_Learner_explainShift 24 rfl) rfl ?_
  refine xJ.getfield (o_Learner_explainShift 25 rfl) f_Learner_25 rfl rfl ?_
  refine xJ.getfield (o_Learner_explainShift 26 rfl) f_Learner_140 rfl rfl ?_
  refine xJ.iload_n (o_Learner_explainShift 27 rfl) rfl ?_
  refine xJ.iaload (o_Learner_explainShift 28 rfl) rfl h.1 ?_
  replace h := h.2
  refine xJ.i2l (o_Learner_explainShift 29 rfl) rfl ?_
  refine xJ.callS (Y' := Y_Words_less) (o_Learner_explainShift 30 rfl) m_Learner_143 y_Words_less st_Words_less (s_Words_less h) rfl rfl (Nat.le_of_ble_eq_true rfl) (fun _ hx => by cases hx) (fun v u q => ?_) (fun n u q => q)
  obtain ⟨r, rfl, h⟩ := xqi_get q
  refine xJ.if_eq (tgt := 110) (o_Learner_explainShift 31 rfl) (by decide) (fun z => ?_) (fun z => ?_)
  · replace h := h.1 z
    exact xJ.return_ (o_Learner_explainShift 61 rfl) rfl h
  · replace h := h.2 z
    refine xJ.aload_n (o_Learner_explainShift 32 rfl) rfl ?_
    refine xJ.getfield (o_Learner_explainShift 33 rfl) f_Learner_26 rfl rfl ?_
    refine xJ.iload (o_Learner_explainShift 34 rfl) rfl ?_
    refine xJ.laload (o_Learner_explainShift 35 rfl) rfl h.1 ?_
    replace h := h.2
    refine xJ.l2i (o_Learner_explainShift 36 rfl) rfl ?_
    refine xJ.istore (o_Learner_explainShift 37 rfl) (by decide) ?_
    replace h := h _ rfl
    refine xJ.aload_n (o_Learner_explainShift 38 rfl) rfl ?_
    refine xJ.iload_n (o_Learner_explainShift 39 rfl) rfl ?_
    refine xJ.aload_n (o_Learner_explainShift 40 rfl) rfl ?_
    refine xJ.getfield (o_Learner_explainShift 41 rfl) f_Learner_25 rfl rfl ?_
    refine xJ.getfield (o_Learner_explainShift 42 rfl) f_Learner_59 rfl rfl ?_
    refine xJ.iload_n (o_Learner_explainShift 43 rfl) rfl ?_
    refine xJ.iaload (o_Learner_explainShift 44 rfl) rfl h.1 ?_
    replace h := h.2
    refine xJ.bipush (v := 33) (o_Learner_explainShift 45 rfl) (by decide) ?_
    refine xJ.icmp_ne (tgt := 93) (o_Learner_explainShift 46 rfl) (by decide) (fun z => ?_) (fun z => ?_)
    · replace h := h.1 z
      refine xJ.lload_n (o_Learner_explainShift 51 rfl) rfl ?_
      refine xJ.iload (o_Learner_explainShift 52 rfl) rfl ?_
      refine xJ.lshl (o_Learner_explainShift 53 rfl) rfl ?_
      refine xJ.aload_n (o_Learner_explainShift 54 rfl) rfl ?_
      refine xJ.getfield (o_Learner_explainShift 55 rfl) f_Learner_25 rfl rfl ?_
      refine xJ.getfield (o_Learner_explainShift 56 rfl) f_Learner_100 rfl rfl ?_
      refine xJ.iload_n (o_Learner_explainShift 57 rfl) rfl ?_
      refine xJ.laload (o_Learner_explainShift 58 rfl) rfl h.1 ?_
      replace h := h.2
      refine xJ.land (o_Learner_explainShift 59 rfl) ?_
      exact xJ.lvs (by exact trivial) (sw_Learner_explainShift_107 h)
    · replace h := h.2 z
      refine xJ.lload_n (o_Learner_explainShift 47 rfl) rfl ?_
      refine xJ.iload (o_Learner_explainShift 48 rfl) rfl ?_
      refine xJ.lushr (o_Learner_explainShift 49 rfl) rfl ?_
      refine xJ.goto (tgt := 107) (o_Learner_explainShift 50 rfl) (by decide) ?_
      exact xJ.lvs (by exact trivial) (sw_Learner_explainShift_107 h)
def w_Learner_explainSignedShift_102 (Q : xO → xS → Prop) (t1 : Int32) (t2 : Int64) (t3 : Int32) (σ : xS) : Prop :=
  wp_Learner_askFilled (xqv (fun u6 => Q (.inl none) u6) (fun n u => Q (.inr n) u)) σ t1 t2 t3
def wp_Learner_explainSignedShift (Q : xO → xS → Prop) (σ : xS) (a1 : Int32) (a2 : Int32) (a3 : Int64) : Prop :=
  (vp_in a1 2001 ∧ (vp_in ((xi σ 9 a1.toNatClampNeg) + 1) 80000 ∧ (∀ x1 : Int32, x1 = (xi σ 10 ((xi σ 9 a1.toNatClampNeg) + 1).toNatClampNeg) → (vp_in x1 2000 ∧ wp_Learner_ask (xqv (fun u2 => (vp_in x1 2000 ∧ (vp_in a2 2000 ∧ wp_Words_signShift (xqi (fun r5 u4 => (vp_in a2 2000 ∧ (vp_in a2 2000 ∧ (((lg_cmp (a3 &&& ((jlushr (xl u4 13 a2.toNatClampNeg) r5) ^^^ (-1))) 0) = 0 → w_Learner_explainSignedShift_102 Q a2 ((jlshl a3 r5) &&& (xl u4 13 a2.toNatClampNeg)) 0 u4) ∧ (¬ (lg_cmp (a3 &&& ((jlushr (xl u4 13 a2.toNatClampNeg) r5) ^^^ (-1))) 0) = 0 → w_Learner_explainSignedShift_102 Q a2 ((jlshl a3 r5) &&& (xl u4 13 a2.toNatClampNeg)) 1 u4))))) (fun n u => Q (.inr n) u)) u2 (xl u2 41 x1.toNatClampNeg) (xi u2 8 a2.toNatClampNeg)))) (fun n u => Q (.inr n) u)) σ x1 (xl σ 13 x1.toNatClampNeg)))))
set_option maxRecDepth 20000 in
theorem sw_Learner_explainSignedShift_102 {γ : xG1} {d b0 : Nat} {Q : xO → xS → Prop} {t1 : Int32} {t2 : Int64} {t3 : Int32} {σ : xS} (h : w_Learner_explainSignedShift_102 Q t1 t2 t3 σ) : xJ (SHP, γ) Y_Learner_explainSignedShift (d + 2) b0 102 [] [.int t3, .long t2, .int t1, .ref 42] σ Q := by
  refine xJ.callV (Y' := Y_Learner_askFilled) (o_Learner_explainSignedShift 59 rfl) m_Learner_112 y_Learner_askFilled im_Learner_askFilled se_Learner_askFilled rfl rfl (s_Learner_askFilled h) rfl rfl (Nat.le_of_ble_eq_true rfl) (fun _ hx => by cases hx) (fun v u q => ?_) (fun n u q => q)
  obtain ⟨rfl, h⟩ := xqv_get q
  exact xJ.return_ (o_Learner_explainSignedShift 60 rfl) rfl h
set_option maxRecDepth 20000 in
theorem s_Learner_explainSignedShift {γ : xG1} {d : Nat} {Q : xO → xS → Prop} {σ : xS} {a1 : Int32} {a2 : Int32} {a3 : Int64} (h : wp_Learner_explainSignedShift Q σ a1 a2 a3) : xM (SHP, γ) Y_Learner_explainSignedShift (d + 2) [.ref 42, .int a1, .int a2, .long a3] σ Q := by
  refine xM.of (by decide) (Nat.le_of_ble_eq_true rfl) ?_
  refine xJ.aload_n (o_Learner_explainSignedShift 0 rfl) rfl ?_
  refine xJ.getfield (o_Learner_explainSignedShift 1 rfl) f_Learner_25 rfl rfl ?_
  refine xJ.getfield (o_Learner_explainSignedShift 2 rfl) f_Learner_49 rfl rfl ?_
  refine xJ.aload_n (o_Learner_explainSignedShift 3 rfl) rfl ?_
  refine xJ.getfield (o_Learner_explainSignedShift 4 rfl) f_Learner_25 rfl rfl ?_
  refine xJ.getfield (o_Learner_explainSignedShift 5 rfl) f_Learner_52 rfl rfl ?_
  refine xJ.iload_n (o_Learner_explainSignedShift 6 rfl) rfl ?_
  refine xJ.iaload (o_Learner_explainSignedShift 7 rfl) rfl h.1 ?_
  replace h := h.2
  refine xJ.iconst (v := 1) (o_Learner_explainSignedShift 8 rfl) (by decide) ?_
  refine xJ.iadd (o_Learner_explainSignedShift 9 rfl) ?_
  refine xJ.iaload (o_Learner_explainSignedShift 10 rfl) rfl h.1 ?_
  replace h := h.2
  refine xJ.istore (o_Learner_explainSignedShift 11 rfl) (by decide) ?_
  replace h := h _ rfl
  refine xJ.aload_n (o_Learner_explainSignedShift 12 rfl) rfl ?_
  refine xJ.iload (o_Learner_explainSignedShift 13 rfl) rfl ?_
  refine xJ.aload_n (o_Learner_explainSignedShift 14 rfl) rfl ?_
  refine xJ.getfield (o_Learner_explainSignedShift 15 rfl) f_Learner_25 rfl rfl ?_
  refine xJ.getfield (o_Learner_explainSignedShift 16 rfl) f_Learner_100 rfl rfl ?_
  refine xJ.iload (o_Learner_explainSignedShift 17 rfl) rfl ?_
  refine xJ.laload (o_Learner_explainSignedShift 18 rfl) rfl h.1 ?_
  replace h := h.2
  refine xJ.callV (Y' := Y_Learner_ask) (o_Learner_explainSignedShift 19 rfl) m_Learner_40 y_Learner_ask im_Learner_ask se_Learner_ask rfl rfl (s_Learner_ask h) rfl rfl (Nat.le_of_ble_eq_true rfl) (fun _ hx => by cases hx) (fun v u q => ?_) (fun n u q => q)
  obtain ⟨rfl, h⟩ := xqv_get q
  refine xJ.aload_n (o_Learner_explainSignedShift 20 rfl) rfl ?_
  refine xJ.getfield (o_Learner_explainSignedShift 21 rfl) f_Learner_26 rfl rfl ?_
  refine xJ.iload (o_Learner_explainSignedShift 22 rfl) rfl ?_
  refine xJ.laload (o_Learner_explainSignedShift 23 rfl) rfl h.1 ?_
  replace h := h.2
  refine xJ.aload_n (o_Learner_explainSignedShift 24 rfl) rfl ?_
  refine xJ.getfield (o_Learner_explainSignedShift 25 rfl) f_Learner_25 rfl rfl ?_
  refine xJ.getfield (o_Learner_explainSignedShift 26 rfl) f_Learner_140 rfl rfl ?_
  refine xJ.iload_n (o_Learner_explainSignedShift 27 rfl) rfl ?_
  refine xJ.iaload (o_Learner_explainSignedShift 28 rfl) rfl h.1 ?_
  replace h := h.2
  refine xJ.callS (Y' := Y_Words_signShift) (o_Learner_explainSignedShift 29 rfl) m_Learner_147 y_Words_signShift st_Words_signShift (s_Words_signShift h) rfl rfl (Nat.le_of_ble_eq_true rfl) (fun _ hx => by cases hx) (fun v u q => ?_) (fun n u q => q)
  obtain ⟨r, rfl, h⟩ := xqi_get q
  refine xJ.istore (o_Learner_explainSignedShift 30 rfl) (by decide) ?_
  refine xJ.aload_n (o_Learner_explainSignedShift 31 rfl) rfl ?_
  refine xJ.iload_n (o_Learner_explainSignedShift 32 rfl) rfl ?_
  refine xJ.lload_n (o_Learner_explainSignedShift 33 rfl) rfl ?_
  refine xJ.iload (o_Learner_explainSignedShift 34 rfl) rfl ?_
  refine xJ.lshl (o_Learner_explainSignedShift 35 rfl) rfl ?_
  refine xJ.aload_n (o_Learner_explainSignedShift 36 rfl) rfl ?_
  refine xJ.getfield (o_Learner_explainSignedShift 37 rfl) f_Learner_25 rfl rfl ?_
  refine xJ.getfield (o_Learner_explainSignedShift 38 rfl) f_Learner_100 rfl rfl ?_
  refine xJ.iload_n (o_Learner_explainSignedShift 39 rfl) rfl ?_
  refine xJ.laload (o_Learner_explainSignedShift 40 rfl) rfl h.1 ?_
  replace h := h.2
  refine xJ.land (o_Learner_explainSignedShift 41 rfl) ?_
  refine xJ.lload_n (o_Learner_explainSignedShift 42 rfl) rfl ?_
  refine xJ.aload_n (o_Learner_explainSignedShift 43 rfl) rfl ?_
  refine xJ.getfield (o_Learner_explainSignedShift 44 rfl) f_Learner_25 rfl rfl ?_
  refine xJ.getfield (o_Learner_explainSignedShift 45 rfl) f_Learner_100 rfl rfl ?_
  refine xJ.iload_n (o_Learner_explainSignedShift 46 rfl) rfl ?_
  refine xJ.laload (o_Learner_explainSignedShift 47 rfl) rfl h.1 ?_
  replace h := h.2
  refine xJ.iload (o_Learner_explainSignedShift 48 rfl) rfl ?_
  refine xJ.lushr (o_Learner_explainSignedShift 49 rfl) rfl ?_
  refine xJ.ldc2 (v := (-1)) (o_Learner_explainSignedShift 50 rfl) k_Learner_68 ?_
  refine xJ.lxor (o_Learner_explainSignedShift 51 rfl) ?_
  refine xJ.land (o_Learner_explainSignedShift 52 rfl) ?_
  refine xJ.lconst (v := 0) (o_Learner_explainSignedShift 53 rfl) (by decide) ?_
  refine xJ.lcmp (o_Learner_explainSignedShift 54 rfl) ?_
  refine xJ.if_eq (tgt := 101) (o_Learner_explainSignedShift 55 rfl) (by decide) (fun z => ?_) (fun z => ?_)
  · replace h := h.1 z
    refine xJ.iconst (v := 0) (o_Learner_explainSignedShift 58 rfl) (by decide) ?_
    exact xJ.lvs (by exact trivial) (sw_Learner_explainSignedShift_102 h)
  · replace h := h.2 z
    refine xJ.iconst (v := 1) (o_Learner_explainSignedShift 56 rfl) (by decide) ?_
    refine xJ.goto (tgt := 102) (o_Learner_explainSignedShift 57 rfl) (by decide) ?_
    exact xJ.lvs (by exact trivial) (sw_Learner_explainSignedShift_102 h)
def w_Learner_explainConcat_18 (Q : xO → xS → Prop) : Nat → Int32 → Int64 → Int32 → xS → Prop
  | 0 => fun _ _ _ _ => False
  | n + 1 => fun a1 a4 a6 σ =>
    (vp_in a1 2001 ∧ ((a6 < (xi σ 9 a1.toNatClampNeg) → Q (.inl none) σ) ∧ (¬ a6 < (xi σ 9 a1.toNatClampNeg) → (vp_in a6 80000 ∧ (∀ x2 : Int32, x2 = (xi σ 10 a6.toNatClampNeg) → (vp_in x2 2000 ∧ wp_Learner_ask (xqv (fun u3 => (vp_in x2 2000 ∧ (∀ x5 : Int64, x5 = (jlushr a4 (xi u3 8 x2.toNatClampNeg)) → (∀ x6 : Int32, x6 = a6 + (-1) → w_Learner_explainConcat_18 Q n a1 x5 x6 u3)))) (fun n u => Q (.inr n) u)) σ x2 (a4 &&& (xl σ 13 x2.toNatClampNeg))))))))
def wp_Learner_explainConcat (Q : xO → xS → Prop) (σ : xS) (a1 : Int32) (a2 : Int64) : Prop :=
  (vp_in (a1 + 1) 2001 ∧ (∀ x1 : Int32, x1 = ((xi σ 9 (a1 + 1).toNatClampNeg) - 1) → ∃ m, w_Learner_explainConcat_18 Q m a1 a2 x1 σ))
set_option maxRecDepth 20000 in
theorem sw_Learner_explainConcat_18 {γ : xG1} {d b0 : Nat} {Q : xO → xS → Prop} : ∀ (n : Nat) (a1 : Int32) (a4 : Int64) (a6 : Int32) (σ : xS), w_Learner_explainConcat_18 Q n a1 a4 a6 σ → xJ (SHP, γ) Y_Learner_explainConcat (d + 1) b0 18 [(0, .ref 42), (1, .int a1), (4, .long a4), (6, .int a6)] [] σ Q := by
  intro n
  induction n with
  | zero => intro a1 a4 a6 σ h; exact h.elim
  | succ n ih =>
    intro a1 a4 a6 σ h
    refine xJ.iload (o_Learner_explainConcat 12 rfl) rfl ?_
    refine xJ.aload_n (o_Learner_explainConcat 13 rfl) rfl ?_
    refine xJ.getfield (o_Learner_explainConcat 14 rfl) f_Learner_25 rfl rfl ?_
    refine xJ.getfield (o_Learner_explainConcat 15 rfl) f_Learner_52 rfl rfl ?_
    refine xJ.iload_n (o_Learner_explainConcat 16 rfl) rfl ?_
    refine xJ.iaload (o_Learner_explainConcat 17 rfl) rfl h.1 ?_
    replace h := h.2
    refine xJ.icmp_lt (tgt := 84) (o_Learner_explainConcat 18 rfl) (by decide) (fun z => ?_) (fun z => ?_)
    · replace h := h.1 z
      exact xJ.return_ (o_Learner_explainConcat 45 rfl) rfl h
    · replace h := h.2 z
      refine xJ.aload_n (o_Learner_explainConcat 19 rfl) rfl ?_
      refine xJ.getfield (o_Learner_explainConcat 20 rfl) f_Learner_25 rfl rfl ?_
      refine xJ.getfield (o_Learner_explainConcat 21 rfl) f_Learner_49 rfl rfl ?_
      refine xJ.iload (o_Learner_explainConcat 22 rfl) rfl ?_
      refine xJ.iaload (o_Learner_explainConcat 23 rfl) rfl h.1 ?_
      replace h := h.2
      refine xJ.istore (o_Learner_explainConcat 24 rfl) (by decide) ?_
      replace h := h _ rfl
      refine xJ.aload_n (o_Learner_explainConcat 25 rfl) rfl ?_
      refine xJ.iload (o_Learner_explainConcat 26 rfl) rfl ?_
      refine xJ.lload (o_Learner_explainConcat 27 rfl) rfl ?_
      refine xJ.aload_n (o_Learner_explainConcat 28 rfl) rfl ?_
      refine xJ.getfield (o_Learner_explainConcat 29 rfl) f_Learner_25 rfl rfl ?_
      refine xJ.getfield (o_Learner_explainConcat 30 rfl) f_Learner_100 rfl rfl ?_
      refine xJ.iload (o_Learner_explainConcat 31 rfl) rfl ?_
      refine xJ.laload (o_Learner_explainConcat 32 rfl) rfl h.1 ?_
      replace h := h.2
      refine xJ.land (o_Learner_explainConcat 33 rfl) ?_
      refine xJ.callV (Y' := Y_Learner_ask) (o_Learner_explainConcat 34 rfl) m_Learner_40 y_Learner_ask im_Learner_ask se_Learner_ask rfl rfl (s_Learner_ask h) rfl rfl (Nat.le_of_ble_eq_true rfl) (fun _ hx => by cases hx) (fun v u q => ?_) (fun n u q => q)
      obtain ⟨rfl, h⟩ := xqv_get q
      refine xJ.lload (o_Learner_explainConcat 35 rfl) rfl ?_
      refine xJ.aload_n (o_Learner_explainConcat 36 rfl) rfl ?_
      refine xJ.getfield (o_Learner_explainConcat 37 rfl) f_Learner_25 rfl rfl ?_
      refine xJ.getfield (o_Learner_explainConcat 38 rfl) f_Learner_140 rfl rfl ?_
      refine xJ.iload (o_Learner_explainConcat 39 rfl) rfl ?_
      refine xJ.iaload (o_Learner_explainConcat 40 rfl) rfl h.1 ?_
      replace h := h.2
      refine xJ.lushr (o_Learner_explainConcat 41 rfl) rfl ?_
      refine xJ.lstore (o_Learner_explainConcat 42 rfl) (by decide) ?_
      replace h := h _ rfl
      refine xJ.iincC (w := (-1)) (o_Learner_explainConcat 43 rfl) rfl (by decide) (by decide) ?_
      replace h := h _ rfl
      refine xJ.goto (tgt := 18) (o_Learner_explainConcat 44 rfl) (by decide) ?_
      exact xJ.lvs (by exact ⟨rfl, rfl, rfl, rfl, trivial⟩) (ih _ _ _ _ h)
set_option maxRecDepth 20000 in
theorem s_Learner_explainConcat {γ : xG1} {d : Nat} {Q : xO → xS → Prop} {σ : xS} {a1 : Int32} {a2 : Int64} (h : wp_Learner_explainConcat Q σ a1 a2) : xM (SHP, γ) Y_Learner_explainConcat (d + 1) [.ref 42, .int a1, .long a2] σ Q := by
  refine xM.of (by decide) (Nat.le_of_ble_eq_true rfl) ?_
  refine xJ.lload_n (o_Learner_explainConcat 0 rfl) rfl ?_
  refine xJ.lstore (o_Learner_explainConcat 1 rfl) (by decide) ?_
  refine xJ.aload_n (o_Learner_explainConcat 2 rfl) rfl ?_
  refine xJ.getfield (o_Learner_explainConcat 3 rfl) f_Learner_25 rfl rfl ?_
  refine xJ.getfield (o_Learner_explainConcat 4 rfl) f_Learner_52 rfl rfl ?_
  refine xJ.iload_n (o_Learner_explainConcat 5 rfl) rfl ?_
  refine xJ.iconst (v := 1) (o_Learner_explainConcat 6 rfl) (by decide) ?_
  refine xJ.iadd (o_Learner_explainConcat 7 rfl) ?_
  refine xJ.iaload (o_Learner_explainConcat 8 rfl) rfl h.1 ?_
  replace h := h.2
  refine xJ.iconst (v := 1) (o_Learner_explainConcat 9 rfl) (by decide) ?_
  refine xJ.isub (o_Learner_explainConcat 10 rfl) ?_
  refine xJ.istore (o_Learner_explainConcat 11 rfl) (by decide) ?_
  replace h := h _ rfl
  obtain ⟨m, h⟩ := h
  exact xJ.lvs (by exact ⟨rfl, rfl, rfl, rfl, trivial⟩) (sw_Learner_explainConcat_18 m _ _ _ _ h)
def wp_Learner_explainSelect (Q : xO → xS → Prop) (σ : xS) (a1 : Int32) (a2 : Int32) (a3 : Int64) : Prop :=
  (vp_in a1 2001 ∧ (vp_in ((xi σ 9 a1.toNatClampNeg) + 1) 80000 ∧ (∀ x1 : Int32, x1 = (xi σ 10 ((xi σ 9 a1.toNatClampNeg) + 1).toNatClampNeg) → (vp_in x1 2000 ∧ wp_Learner_ask (xqv (fun u2 => (vp_in a2 2000 ∧ (vp_in x1 2000 ∧ wp_Sorts_cellShift (xqi (fun r5 u4 => wp_Learner_ask (xqv (fun u6 => Q (.inl none) u6) (fun n u => Q (.inr n) u)) u4 a2 (jlshl a3 r5)) (fun n u => Q (.inr n) u)) u2 (xi u2 8 a2.toNatClampNeg) (xl u2 41 x1.toNatClampNeg)))) (fun n u => Q (.inr n) u)) σ x1 (xl σ 13 x1.toNatClampNeg)))))
set_option maxRecDepth 20000 in
theorem s_Learner_explainSelect {γ : xG1} {d : Nat} {Q : xO → xS → Prop} {σ : xS} {a1 : Int32} {a2 : Int32} {a3 : Int64} (h : wp_Learner_explainSelect Q σ a1 a2 a3) : xM (SHP, γ) Y_Learner_explainSelect (d + 1) [.ref 42, .int a1, .int a2, .long a3] σ Q := by
  refine xM.of (by decide) (Nat.le_of_ble_eq_true rfl) ?_
  refine xJ.aload_n (o_Learner_explainSelect 0 rfl) rfl ?_
  refine xJ.getfield (o_Learner_explainSelect 1 rfl) f_Learner_25 rfl rfl ?_
  refine xJ.getfield (o_Learner_explainSelect 2 rfl) f_Learner_49 rfl rfl ?_
  refine xJ.aload_n (o_Learner_explainSelect 3 rfl) rfl ?_
  refine xJ.getfield (o_Learner_explainSelect 4 rfl) f_Learner_25 rfl rfl ?_
  refine xJ.getfield (o_Learner_explainSelect 5 rfl) f_Learner_52 rfl rfl ?_
  refine xJ.iload_n (o_Learner_explainSelect 6 rfl) rfl ?_
  refine xJ.iaload (o_Learner_explainSelect 7 rfl) rfl h.1 ?_
  replace h := h.2
  refine xJ.iconst (v := 1) (o_Learner_explainSelect 8 rfl) (by decide) ?_
  refine xJ.iadd (o_Learner_explainSelect 9 rfl) ?_
  refine xJ.iaload (o_Learner_explainSelect 10 rfl) rfl h.1 ?_
  replace h := h.2
  refine xJ.istore (o_Learner_explainSelect 11 rfl) (by decide) ?_
  replace h := h _ rfl
  refine xJ.aload_n (o_Learner_explainSelect 12 rfl) rfl ?_
  refine xJ.iload (o_Learner_explainSelect 13 rfl) rfl ?_
  refine xJ.aload_n (o_Learner_explainSelect 14 rfl) rfl ?_
  refine xJ.getfield (o_Learner_explainSelect 15 rfl) f_Learner_25 rfl rfl ?_
  refine xJ.getfield (o_Learner_explainSelect 16 rfl) f_Learner_100 rfl rfl ?_
  refine xJ.iload (o_Learner_explainSelect 17 rfl) rfl ?_
  refine xJ.laload (o_Learner_explainSelect 18 rfl) rfl h.1 ?_
  replace h := h.2
  refine xJ.callV (Y' := Y_Learner_ask) (o_Learner_explainSelect 19 rfl) m_Learner_40 y_Learner_ask im_Learner_ask se_Learner_ask rfl rfl (s_Learner_ask h) rfl rfl (Nat.le_of_ble_eq_true rfl) (fun _ hx => by cases hx) (fun v u q => ?_) (fun n u q => q)
  obtain ⟨rfl, h⟩ := xqv_get q
  refine xJ.aload_n (o_Learner_explainSelect 20 rfl) rfl ?_
  refine xJ.iload_n (o_Learner_explainSelect 21 rfl) rfl ?_
  refine xJ.lload_n (o_Learner_explainSelect 22 rfl) rfl ?_
  refine xJ.aload_n (o_Learner_explainSelect 23 rfl) rfl ?_
  refine xJ.getfield (o_Learner_explainSelect 24 rfl) f_Learner_25 rfl rfl ?_
  refine xJ.getfield (o_Learner_explainSelect 25 rfl) f_Learner_140 rfl rfl ?_
  refine xJ.iload_n (o_Learner_explainSelect 26 rfl) rfl ?_
  refine xJ.iaload (o_Learner_explainSelect 27 rfl) rfl h.1 ?_
  replace h := h.2
  refine xJ.aload_n (o_Learner_explainSelect 28 rfl) rfl ?_
  refine xJ.getfield (o_Learner_explainSelect 29 rfl) f_Learner_26 rfl rfl ?_
  refine xJ.iload (o_Learner_explainSelect 30 rfl) rfl ?_
  refine xJ.laload (o_Learner_explainSelect 31 rfl) rfl h.1 ?_
  replace h := h.2
  refine xJ.callS (Y' := Y_Sorts_cellShift) (o_Learner_explainSelect 32 rfl) m_Learner_151 y_Sorts_cellShift st_Sorts_cellShift (s_Sorts_cellShift h) rfl rfl (Nat.le_of_ble_eq_true rfl) (fun _ hx => by cases hx) (fun v u q => ?_) (fun n u q => q)
  obtain ⟨r, rfl, h⟩ := xqi_get q
  refine xJ.lshl (o_Learner_explainSelect 33 rfl) rfl ?_
  refine xJ.callV (Y' := Y_Learner_ask) (o_Learner_explainSelect 34 rfl) m_Learner_40 y_Learner_ask im_Learner_ask se_Learner_ask rfl rfl (s_Learner_ask h) rfl rfl (Nat.le_of_ble_eq_true rfl) (fun _ hx => by cases hx) (fun v u q => ?_) (fun n u q => q)
  obtain ⟨rfl, h⟩ := xqv_get q
  exact xJ.return_ (o_Learner_explainSelect 35 rfl) rfl h
def wp_Learner_explainStore (Q : xO → xS → Prop) (σ : xS) (a1 : Int32) (a2 : Int32) (a3 : Int64) : Prop :=
  (vp_in a1 2001 ∧ (vp_in ((xi σ 9 a1.toNatClampNeg) + 1) 80000 ∧ (∀ x1 : Int32, x1 = (xi σ 10 ((xi σ 9 a1.toNatClampNeg) + 1).toNatClampNeg) → (vp_in a1 2001 ∧ (vp_in ((xi σ 9 a1.toNatClampNeg) + 2) 80000 ∧ (∀ x2 : Int32, x2 = (xi σ 10 ((xi σ 9 a1.toNatClampNeg) + 2).toNatClampNeg) → (vp_in a2 2000 ∧ (vp_in x1 2000 ∧ wp_Sorts_cellShift (xqi (fun r4 u3 => (vp_in x1 2000 ∧ wp_Learner_ask (xqv (fun u5 => (vp_in x2 2000 ∧ wp_Learner_ask (xqv (fun u7 => (vp_in x2 2000 ∧ wp_Learner_ask (xqv (fun u9 => Q (.inl none) u9) (fun n u => Q (.inr n) u)) u7 a2 (a3 &&& ((jlshl (xl u7 13 x2.toNatClampNeg) r4) ^^^ (-1))))) (fun n u => Q (.inr n) u)) u5 x2 ((jlushr a3 r4) &&& (xl u5 13 x2.toNatClampNeg)))) (fun n u => Q (.inr n) u)) u3 x1 (xl u3 13 x1.toNatClampNeg))) (fun n u => Q (.inr n) u)) σ (xi σ 8 a2.toNatClampNeg) (xl σ 41 x1.toNatClampNeg)))))))))
set_option maxRecDepth 20000 in
theorem s_Learner_explainStore {γ : xG1} {d : Nat} {Q : xO → xS → Prop} {σ : xS} {a1 : Int32} {a2 : Int32} {a3 : Int64} (h : wp_Learner_explainStore Q σ a1 a2 a3) : xM (SHP, γ) Y_Learner_explainStore (d + 1) [.ref 42, .int a1, .int a2, .long a3] σ Q := by
  refine xM.of (by decide) (Nat.le_of_ble_eq_true rfl) ?_
  refine xJ.aload_n (o_Learner_explainStore 0 rfl) rfl ?_
  refine xJ.getfield (o_Learner_explainStore 1 rfl) f_Learner_25 rfl rfl ?_
  refine xJ.getfield (o_Learner_explainStore 2 rfl) f_Learner_49 rfl rfl ?_
  refine xJ.aload_n (o_Learner_explainStore 3 rfl) rfl ?_
  refine xJ.getfield (o_Learner_explainStore 4 rfl) f_Learner_25 rfl rfl ?_
  refine xJ.getfield (o_Learner_explainStore 5 rfl) f_Learner_52 rfl rfl ?_
  refine xJ.iload_n (o_Learner_explainStore 6 rfl) rfl ?_
  refine xJ.iaload (o_Learner_explainStore 7 rfl) rfl h.1 ?_
  replace h := h.2
  refine xJ.iconst (v := 1) (o_Learner_explainStore 8 rfl) (by decide) ?_
  refine xJ.iadd (o_Learner_explainStore 9 rfl) ?_
  refine xJ.iaload (o_Learner_explainStore 10 rfl) rfl h.1 ?_
  replace h := h.2
  refine xJ.istore (o_Learner_explainStore 11 rfl) (by decide) ?_
  replace h := h _ rfl
  refine xJ.aload_n (o_Learner_explainStore 12 rfl) rfl ?_
  refine xJ.getfield (o_Learner_explainStore 13 rfl) f_Learner_25 rfl rfl ?_
  refine xJ.getfield (o_Learner_explainStore 14 rfl) f_Learner_49 rfl rfl ?_
  refine xJ.aload_n (o_Learner_explainStore 15 rfl) rfl ?_
  refine xJ.getfield (o_Learner_explainStore 16 rfl) f_Learner_25 rfl rfl ?_
  refine xJ.getfield (o_Learner_explainStore 17 rfl) f_Learner_52 rfl rfl ?_
  refine xJ.iload_n (o_Learner_explainStore 18 rfl) rfl ?_
  refine xJ.iaload (o_Learner_explainStore 19 rfl) rfl h.1 ?_
  replace h := h.2
  refine xJ.iconst (v := 2) (o_Learner_explainStore 20 rfl) (by decide) ?_
  refine xJ.iadd (o_Learner_explainStore 21 rfl) ?_
  refine xJ.iaload (o_Learner_explainStore 22 rfl) rfl h.1 ?_
  replace h := h.2
  refine xJ.istore (o_Learner_explainStore 23 rfl) (by decide) ?_
  replace h := h _ rfl
  refine xJ.aload_n (o_Learner_explainStore 24 rfl) rfl ?_
  refine xJ.getfield (o_Learner_explainStore 25 rfl) f_Learner_25 rfl rfl ?_
  refine xJ.getfield (o_Learner_explainStore 26 rfl) f_Learner_140 rfl rfl ?_
  refine xJ.iload_n (o_Learner_explainStore 27 rfl) rfl ?_
  refine xJ.iaload (o_Learner_explainStore 28 rfl) rfl h.1 ?_
  replace h := h.2
  refine xJ.aload_n (o_Learner_explainStore 29 rfl) rfl ?_
  refine xJ.getfield (o_Learner_explainStore 30 rfl) f_Learner_26 rfl rfl ?_
  refine xJ.iload (o_Learner_explainStore 31 rfl) rfl ?_
  refine xJ.laload (o_Learner_explainStore 32 rfl) rfl h.1 ?_
  replace h := h.2
  refine xJ.callS (Y' := Y_Sorts_cellShift) (o_Learner_explainStore 33 rfl) m_Learner_151 y_Sorts_cellShift st_Sorts_cellShift (s_Sorts_cellShift h) rfl rfl (Nat.le_of_ble_eq_true rfl) (fun _ hx => by cases hx) (fun v u q => ?_) (fun n u q => q)
  obtain ⟨r, rfl, h⟩ := xqi_get q
  refine xJ.istore (o_Learner_explainStore 34 rfl) (by decide) ?_
  refine xJ.aload_n (o_Learner_explainStore 35 rfl) rfl ?_
  refine xJ.iload (o_Learner_explainStore 36 rfl) rfl ?_
  refine xJ.aload_n (o_Learner_explainStore 37 rfl) rfl ?_
  refine xJ.getfield (o_Learner_explainStore 38 rfl) f_Learner_25 rfl rfl ?_
  refine xJ.getfield (o_Learner_explainStore 39 rfl) f_Learner_100 rfl rfl ?_
  refine xJ.iload (o_Learner_explainStore 40 rfl) rfl ?_
  refine xJ.laload (o_Learner_explainStore 41 rfl) rfl h.1 ?_
  replace h := h.2
  refine xJ.callV (Y' := Y_Learner_ask) (o_Learner_explainStore 42 rfl) m_Learner_40 y_Learner_ask im_Learner_ask se_Learner_ask rfl rfl (s_Learner_ask h) rfl rfl (Nat.le_of_ble_eq_true rfl) (fun _ hx => by cases hx) (fun v u q => ?_) (fun n u q => q)
  obtain ⟨rfl, h⟩ := xqv_get q
  refine xJ.aload_n (o_Learner_explainStore 43 rfl) rfl ?_
  refine xJ.iload (o_Learner_explainStore 44 rfl) rfl ?_
  refine xJ.lload_n (o_Learner_explainStore 45 rfl) rfl ?_
  refine xJ.iload (o_Learner_explainStore 46 rfl) rfl ?_
  refine xJ.lushr (o_Learner_explainStore 47 rfl) rfl ?_
  refine xJ.aload_n (o_Learner_explainStore 48 rfl) rfl ?_
  refine xJ.getfield (o_Learner_explainStore 49 rfl) f_Learner_25 rfl rfl ?_
  refine xJ.getfield (o_Learner_explainStore 50 rfl) f_Learner_100 rfl rfl ?_
  refine xJ.iload (o_Learner_explainStore 51 rfl) rfl ?_
  refine xJ.laload (o_Learner_explainStore 52 rfl) rfl h.1 ?_
  replace h := h.2
  refine xJ.land (o_Learner_explainStore 53 rfl) ?_
  refine xJ.callV (Y' := Y_Learner_ask) (o_Learner_explainStore 54 rfl) m_Learner_40 y_Learner_ask im_Learner_ask se_Learner_ask rfl rfl (s_Learner_ask h) rfl rfl (Nat.le_of_ble_eq_true rfl) (fun _ hx => by cases hx) (fun v u q => ?_) (fun n u q => q)
  obtain ⟨rfl, h⟩ := xqv_get q
  refine xJ.aload_n (o_Learner_explainStore 55 rfl) rfl ?_
  refine xJ.iload_n (o_Learner_explainStore 56 rfl) rfl ?_
  refine xJ.lload_n (o_Learner_explainStore 57 rfl) rfl ?_
  refine xJ.aload_n (o_Learner_explainStore 58 rfl) rfl ?_
  refine xJ.getfield (o_Learner_explainStore 59 rfl) f_Learner_25 rfl rfl ?_
  refine xJ.getfield (o_Learner_explainStore 60 rfl) f_Learner_100 rfl rfl ?_
  refine xJ.iload (o_Learner_explainStore 61 rfl) rfl ?_
  refine xJ.laload (o_Learner_explainStore 62 rfl) rfl h.1 ?_
  replace h := h.2
  refine xJ.iload (o_Learner_explainStore 63 rfl) rfl ?_
  refine xJ.lshl (o_Learner_explainStore 64 rfl) rfl ?_
  refine xJ.ldc2 (v := (-1)) (o_Learner_explainStore 65 rfl) k_Learner_68 ?_
  refine xJ.lxor (o_Learner_explainStore 66 rfl) ?_
  refine xJ.land (o_Learner_explainStore 67 rfl) ?_
  refine xJ.callV (Y' := Y_Learner_ask) (o_Learner_explainStore 68 rfl) m_Learner_40 y_Learner_ask im_Learner_ask se_Learner_ask rfl rfl (s_Learner_ask h) rfl rfl (Nat.le_of_ble_eq_true rfl) (fun _ hx => by cases hx) (fun v u q => ?_) (fun n u q => q)
  obtain ⟨rfl, h⟩ := xqv_get q
  exact xJ.return_ (o_Learner_explainStore 69 rfl) rfl h
def wp_Learner_explainComparison (Q : xO → xS → Prop) (σ : xS) (a1 : Int32) (a2 : Int32) : Prop :=
  (vp_in a2 2000 ∧ (vp_in a1 2001 ∧ (vp_in ((xi σ 9 a1.toNatClampNeg) + 1) 80000 ∧ (vp_in (xi σ 10 ((xi σ 9 a1.toNatClampNeg) + 1).toNatClampNeg) 2000 ∧ (∀ x1 : Int64, x1 = ((xl σ 41 a2.toNatClampNeg) ^^^ (xl σ 41 (xi σ 10 ((xi σ 9 a1.toNatClampNeg) + 1).toNatClampNeg).toNatClampNeg)) → (vp_in a2 2000 ∧ wp_Words_upToHighest (xql (fun r3 u2 => wp_Learner_askAll (xqv (fun u4 => Q (.inl none) u4) (fun n u => Q (.inr n) u)) u2 a1 ((xl σ 13 a2.toNatClampNeg) &&& ((jlushr r3 1) ^^^ (-1)))) (fun n u => Q (.inr n) u)) σ x1))))))
set_option maxRecDepth 20000 in
theorem s_Learner_explainComparison {γ : xG1} {d : Nat} {Q : xO → xS → Prop} {σ : xS} {a1 : Int32} {a2 : Int32} (h : wp_Learner_explainComparison Q σ a1 a2) : xM (SHP, γ) Y_Learner_explainComparison (d + 2) [.ref 42, .int a1, .int a2] σ Q := by
  refine xM.of (by decide) (Nat.le_of_ble_eq_true rfl) ?_
  refine xJ.aload_n (o_Learner_explainComparison 0 rfl) rfl ?_
  refine xJ.getfield (o_Learner_explainComparison 1 rfl) f_Learner_26 rfl rfl ?_
  refine xJ.iload_n (o_Learner_explainComparison 2 rfl) rfl ?_
  refine xJ.laload (o_Learner_explainComparison 3 rfl) rfl h.1 ?_
  replace h := h.2
  refine xJ.aload_n (o_Learner_explainComparison 4 rfl) rfl ?_
  refine xJ.getfield (o_Learner_explainComparison 5 rfl) f_Learner_26 rfl rfl ?_
  refine xJ.aload_n (o_Learner_explainComparison 6 rfl) rfl ?_
  refine xJ.getfield (o_Learner_explainComparison 7 rfl) f_Learner_25 rfl rfl ?_
  refine xJ.getfield (o_Learner_explainComparison 8 rfl) f_Learner_49 rfl rfl ?_
  refine xJ.aload_n (o_Learner_explainComparison 9 rfl) rfl ?_
  refine xJ.getfield (o_Learner_explainComparison 10 rfl) f_Learner_25 rfl rfl ?_
  refine xJ.getfield (o_Learner_explainComparison 11 rfl) f_Learner_52 rfl rfl ?_
  refine xJ.iload_n (o_Learner_explainComparison 12 rfl) rfl ?_
  refine xJ.iaload (o_Learner_explainComparison 13 rfl) rfl h.1 ?_
  replace h := h.2
  refine xJ.iconst (v := 1) (o_Learner_explainComparison 14 rfl) (by decide) ?_
  refine xJ.iadd (o_Learner_explainComparison 15 rfl) ?_
  refine xJ.iaload (o_Learner_explainComparison 16 rfl) rfl h.1 ?_
  replace h := h.2
  refine xJ.laload (o_Learner_explainComparison 17 rfl) rfl h.1 ?_
  replace h := h.2
  refine xJ.lxor (o_Learner_explainComparison 18 rfl) ?_
  refine xJ.lstore_n (o_Learner_explainComparison 19 rfl) (by decide) ?_
  replace h := h _ rfl
  refine xJ.aload_n (o_Learner_explainComparison 20 rfl) rfl ?_
  refine xJ.iload_n (o_Learner_explainComparison 21 rfl) rfl ?_
  refine xJ.aload_n (o_Learner_explainComparison 22 rfl) rfl ?_
  refine xJ.getfield (o_Learner_explainComparison 23 rfl) f_Learner_25 rfl rfl ?_
  refine xJ.getfield (o_Learner_explainComparison 24 rfl) f_Learner_100 rfl rfl ?_
  refine xJ.iload_n (o_Learner_explainComparison 25 rfl) rfl ?_
  refine xJ.laload (o_Learner_explainComparison 26 rfl) rfl h.1 ?_
  replace h := h.2
  refine xJ.lload_n (o_Learner_explainComparison 27 rfl) rfl ?_
  refine xJ.callS (Y' := Y_Words_upToHighest) (o_Learner_explainComparison 28 rfl) m_Learner_91 y_Words_upToHighest st_Words_upToHighest (s_Words_upToHighest h) rfl rfl (Nat.le_of_ble_eq_true rfl) (fun _ hx => by cases hx) (fun v u q => ?_) (fun n u q => q)
  obtain ⟨r, rfl, h⟩ := xql_get q
  refine xJ.iconst (v := 1) (o_Learner_explainComparison 29 rfl) (by decide) ?_
  refine xJ.lushr (o_Learner_explainComparison 30 rfl) rfl ?_
  refine xJ.ldc2 (v := (-1)) (o_Learner_explainComparison 31 rfl) k_Learner_68 ?_
  refine xJ.lxor (o_Learner_explainComparison 32 rfl) ?_
  refine xJ.land (o_Learner_explainComparison 33 rfl) ?_
  refine xJ.callV (Y' := Y_Learner_askAll) (o_Learner_explainComparison 34 rfl) m_Learner_74 y_Learner_askAll im_Learner_askAll se_Learner_askAll rfl rfl (s_Learner_askAll h) rfl rfl (Nat.le_of_ble_eq_true rfl) (fun _ hx => by cases hx) (fun v u q => ?_) (fun n u q => q)
  obtain ⟨rfl, h⟩ := xqv_get q
  exact xJ.return_ (o_Learner_explainComparison 35 rfl) rfl h
theorem sc_Learner_explainTerm_9 {x : Int32} {P : Nat → Prop} (k0 : x = 10 → P 355) (k1 : x = 11 → P 374) (k2 : x = 12 → P 393) (k3 : x = 13 ∨ x = 21 → P 172) (k4 : x = 14 ∨ x = 23 → P 181) (k5 : x = 15 ∨ x = 24 → P 212) (k6 : x = 16 ∨ x = 25 → P 241) (k7 : x = 17 → P 250) (k8 : x = 18 → P 258) (k9 : x = 19 → P 268) (k10 : x = 20 → P 277) (k11 : x = 22 ∨ x = 26 ∨ x = 28 → P 285) (k12 : x = 27 → P 297) (k13 : x = 29 ∨ x = 30 ∨ x = 31 ∨ x = 32 → P 309) (k14 : x = 33 ∨ x = 34 → P 326) (k15 : x = 35 → P 336) (k16 : x = 44 → P 346) (k17 : x = 45 → P 437) (k18 : x = 46 → P 447) (kd : ¬ x = 10 ∧ ¬ x = 11 ∧ ¬ x = 12 ∧ ¬ x = 13 ∧ ¬ x = 14 ∧ ¬ x = 15 ∧ ¬ x = 16 ∧ ¬ x = 17 ∧ ¬ x = 18 ∧ ¬ x = 19 ∧ ¬ x = 20 ∧ ¬ x = 21 ∧ ¬ x = 22 ∧ ¬ x = 23 ∧ ¬ x = 24 ∧ ¬ x = 25 ∧ ¬ x = 26 ∧ ¬ x = 27 ∧ ¬ x = 28 ∧ ¬ x = 29 ∧ ¬ x = 30 ∧ ¬ x = 31 ∧ ¬ x = 32 ∧ ¬ x = 33 ∧ ¬ x = 34 ∧ ¬ x = 35 ∧ ¬ x = 44 ∧ ¬ x = 45 ∧ ¬ x = 46 → P 457) : ∃ t : Nat, xdst 9 448 10 46 #[346, 365, 384, 163, 172, 203, 232, 241, 249, 259, 268, 163, 276, 172, 203, 232, 276, 288, 276, 300, 300, 300, 300, 317, 317, 327, 448, 448, 448, 448, 448, 448, 448, 448, 337, 428, 438] x = (t : Int) ∧ P t := by
  by_cases h0_0 : x = 10
  · subst h0_0; exact ⟨355, by decide, k0 (rfl)⟩
  by_cases h1_0 : x = 11
  · subst h1_0; exact ⟨374, by decide, k1 (rfl)⟩
  by_cases h2_0 : x = 12
  · subst h2_0; exact ⟨393, by decide, k2 (rfl)⟩
  by_cases h3_0 : x = 13
  · subst h3_0; exact ⟨172, by decide, k3 (Or.inl rfl)⟩
  by_cases h3_1 : x = 21
  · subst h3_1; exact ⟨172, by decide, k3 (Or.inr (rfl))⟩
  by_cases h4_0 : x = 14
  · subst h4_0; exact ⟨181, by decide, k4 (Or.inl rfl)⟩
  by_cases h4_1 : x = 23
  · subst h4_1; exact ⟨181, by decide, k4 (Or.inr (rfl))⟩
  by_cases h5_0 : x = 15
  · subst h5_0; exact ⟨212, by decide, k5 (Or.inl rfl)⟩
  by_cases h5_1 : x = 24
  · subst h5_1; exact ⟨212, by decide, k5 (Or.inr (rfl))⟩
  by_cases h6_0 : x = 16
  · subst h6_0; exact ⟨241, by decide, k6 (Or.inl rfl)⟩
  by_cases h6_1 : x = 25
  · subst h6_1; exact ⟨241, by decide, k6 (Or.inr (rfl))⟩
  by_cases h7_0 : x = 17
  · subst h7_0; exact ⟨250, by decide, k7 (rfl)⟩
  by_cases h8_0 : x = 18
  · subst h8_0; exact ⟨258, by decide, k8 (rfl)⟩
  by_cases h9_0 : x = 19
  · subst h9_0; exact ⟨268, by decide, k9 (rfl)⟩
  by_cases h10_0 : x = 20
  · subst h10_0; exact ⟨277, by decide, k10 (rfl)⟩
  by_cases h11_0 : x = 22
  · subst h11_0; exact ⟨285, by decide, k11 (Or.inl rfl)⟩
  by_cases h11_1 : x = 26
  · subst h11_1; exact ⟨285, by decide, k11 (Or.inr (Or.inl rfl))⟩
  by_cases h11_2 : x = 28
  · subst h11_2; exact ⟨285, by decide, k11 (Or.inr (Or.inr (rfl)))⟩
  by_cases h12_0 : x = 27
  · subst h12_0; exact ⟨297, by decide, k12 (rfl)⟩
  by_cases h13_0 : x = 29
  · subst h13_0; exact ⟨309, by decide, k13 (Or.inl rfl)⟩
  by_cases h13_1 : x = 30
  · subst h13_1; exact ⟨309, by decide, k13 (Or.inr (Or.inl rfl))⟩
  by_cases h13_2 : x = 31
  · subst h13_2; exact ⟨309, by decide, k13 (Or.inr (Or.inr (Or.inl rfl)))⟩
  by_cases h13_3 : x = 32
  · subst h13_3; exact ⟨309, by decide, k13 (Or.inr (Or.inr (Or.inr (rfl))))⟩
  by_cases h14_0 : x = 33
  · subst h14_0; exact ⟨326, by decide, k14 (Or.inl rfl)⟩
  by_cases h14_1 : x = 34
  · subst h14_1; exact ⟨326, by decide, k14 (Or.inr (rfl))⟩
  by_cases h15_0 : x = 35
  · subst h15_0; exact ⟨336, by decide, k15 (rfl)⟩
  by_cases h16_0 : x = 44
  · subst h16_0; exact ⟨346, by decide, k16 (rfl)⟩
  by_cases h17_0 : x = 45
  · subst h17_0; exact ⟨437, by decide, k17 (rfl)⟩
  by_cases h18_0 : x = 46
  · subst h18_0; exact ⟨447, by decide, k18 (rfl)⟩
  have nh0_0 := lv_neT h0_0 (show (10 : Int32).toInt = 10 by decide)
  have nh1_0 := lv_neT h1_0 (show (11 : Int32).toInt = 11 by decide)
  have nh2_0 := lv_neT h2_0 (show (12 : Int32).toInt = 12 by decide)
  have nh3_0 := lv_neT h3_0 (show (13 : Int32).toInt = 13 by decide)
  have nh3_1 := lv_neT h3_1 (show (21 : Int32).toInt = 21 by decide)
  have nh4_0 := lv_neT h4_0 (show (14 : Int32).toInt = 14 by decide)
  have nh4_1 := lv_neT h4_1 (show (23 : Int32).toInt = 23 by decide)
  have nh5_0 := lv_neT h5_0 (show (15 : Int32).toInt = 15 by decide)
  have nh5_1 := lv_neT h5_1 (show (24 : Int32).toInt = 24 by decide)
  have nh6_0 := lv_neT h6_0 (show (16 : Int32).toInt = 16 by decide)
  have nh6_1 := lv_neT h6_1 (show (25 : Int32).toInt = 25 by decide)
  have nh7_0 := lv_neT h7_0 (show (17 : Int32).toInt = 17 by decide)
  have nh8_0 := lv_neT h8_0 (show (18 : Int32).toInt = 18 by decide)
  have nh9_0 := lv_neT h9_0 (show (19 : Int32).toInt = 19 by decide)
  have nh10_0 := lv_neT h10_0 (show (20 : Int32).toInt = 20 by decide)
  have nh11_0 := lv_neT h11_0 (show (22 : Int32).toInt = 22 by decide)
  have nh11_1 := lv_neT h11_1 (show (26 : Int32).toInt = 26 by decide)
  have nh11_2 := lv_neT h11_2 (show (28 : Int32).toInt = 28 by decide)
  have nh12_0 := lv_neT h12_0 (show (27 : Int32).toInt = 27 by decide)
  have nh13_0 := lv_neT h13_0 (show (29 : Int32).toInt = 29 by decide)
  have nh13_1 := lv_neT h13_1 (show (30 : Int32).toInt = 30 by decide)
  have nh13_2 := lv_neT h13_2 (show (31 : Int32).toInt = 31 by decide)
  have nh13_3 := lv_neT h13_3 (show (32 : Int32).toInt = 32 by decide)
  have nh14_0 := lv_neT h14_0 (show (33 : Int32).toInt = 33 by decide)
  have nh14_1 := lv_neT h14_1 (show (34 : Int32).toInt = 34 by decide)
  have nh15_0 := lv_neT h15_0 (show (35 : Int32).toInt = 35 by decide)
  have nh16_0 := lv_neT h16_0 (show (44 : Int32).toInt = 44 by decide)
  have nh17_0 := lv_neT h17_0 (show (45 : Int32).toInt = 45 by decide)
  have nh18_0 := lv_neT h18_0 (show (46 : Int32).toInt = 46 by decide)
  refine ⟨457, ?_, kd ⟨h0_0, h1_0, h2_0, h3_0, h4_0, h5_0, h6_0, h7_0, h8_0, h9_0, h10_0, h3_1, h11_0, h4_1, h5_1, h6_1, h11_1, h12_0, h11_2, h13_0, h13_1, h13_2, h13_3, h14_0, h14_1, h15_0, h16_0, h17_0, h18_0⟩⟩
  by_cases d26 : x = 36
  · subst d26; decide
  by_cases d27 : x = 37
  · subst d27; decide
  by_cases d28 : x = 38
  · subst d28; decide
  by_cases d29 : x = 39
  · subst d29; decide
  by_cases d30 : x = 40
  · subst d30; decide
  by_cases d31 : x = 41
  · subst d31; decide
  by_cases d32 : x = 42
  · subst d32; decide
  by_cases d33 : x = 43
  · subst d33; decide
  have nd26 := lv_neT d26 (show (36 : Int32).toInt = 36 by decide)
  have nd27 := lv_neT d27 (show (37 : Int32).toInt = 37 by decide)
  have nd28 := lv_neT d28 (show (38 : Int32).toInt = 38 by decide)
  have nd29 := lv_neT d29 (show (39 : Int32).toInt = 39 by decide)
  have nd30 := lv_neT d30 (show (40 : Int32).toInt = 40 by decide)
  have nd31 := lv_neT d31 (show (41 : Int32).toInt = 41 by decide)
  have nd32 := lv_neT d32 (show (42 : Int32).toInt = 42 by decide)
  have nd33 := lv_neT d33 (show (43 : Int32).toInt = 43 by decide)
  exact xdst_out (by omega) rfl
def w_Learner_explainTerm_431 (Q : xO → xS → Prop) (t1 : Int32) (t2 : Int64) (t3 : Int32) (σ : xS) : Prop :=
  wp_Learner_askFilled (xqv (fun u5 => Q (.inl none) u5) (fun n u => Q (.inr n) u)) σ t1 t2 t3
def wp_Learner_explainTerm (Q : xO → xS → Prop) (σ : xS) (a1 : Int32) (a2 : Int32) (a3 : Int64) : Prop :=
  (vp_in a1 2000 ∧ (((xi σ 7 a1.toNatClampNeg) = 10 → (vp_in a1 2000 ∧ wp_Learner_ask (xqv (fun u1 => Q (.inl none) u1) (fun n u => Q (.inr n) u)) σ a2 (jlshl a3 (xi σ 11 a1.toNatClampNeg)))) ∧ ((xi σ 7 a1.toNatClampNeg) = 11 → (vp_in a2 2000 ∧ wp_Learner_ask (xqv (fun u3 => Q (.inl none) u3) (fun n u => Q (.inr n) u)) σ a2 (a3 &&& (xl σ 13 a2.toNatClampNeg)))) ∧ ((xi σ 7 a1.toNatClampNeg) = 12 → (vp_in a2 2000 ∧ (vp_in a2 2000 ∧ (((lg_cmp (a3 &&& ((xl σ 13 a2.toNatClampNeg) ^^^ (-1))) 0) = 0 → w_Learner_explainTerm_431 Q a2 (a3 &&& (xl σ 13 a2.toNatClampNeg)) 0 σ) ∧ (¬ (lg_cmp (a3 &&& ((xl σ 13 a2.toNatClampNeg) ^^^ (-1))) 0) = 0 → w_Learner_explainTerm_431 Q a2 (a3 &&& (xl σ 13 a2.toNatClampNeg)) 1 σ))))) ∧ ((xi σ 7 a1.toNatClampNeg) = 13 ∨ (xi σ 7 a1.toNatClampNeg) = 21 → wp_Learner_ask (xqv (fun u7 => Q (.inl none) u7) (fun n u => Q (.inr n) u)) σ a2 a3) ∧ ((xi σ 7 a1.toNatClampNeg) = 14 ∨ (xi σ 7 a1.toNatClampNeg) = 23 → (vp_in a1 2000 ∧ (vp_in a1 2000 ∧ wp_Learner_explainBitwise (xqv (fun u9 => Q (.inl none) u9) (fun n u => Q (.inr n) u)) σ a1 (a3 &&& (xl σ 41 a1.toNatClampNeg)) (a3 &&& ((xl σ 41 a1.toNatClampNeg) ^^^ (-1))) (-1)))) ∧ ((xi σ 7 a1.toNatClampNeg) = 15 ∨ (xi σ 7 a1.toNatClampNeg) = 24 → (vp_in a1 2000 ∧ (vp_in a1 2000 ∧ wp_Learner_explainBitwise (xqv (fun u11 => Q (.inl none) u11) (fun n u => Q (.inr n) u)) σ a1 (a3 &&& ((xl σ 41 a1.toNatClampNeg) ^^^ (-1))) (a3 &&& (xl σ 41 a1.toNatClampNeg)) 0))) ∧ ((xi σ 7 a1.toNatClampNeg) = 16 ∨ (xi σ 7 a1.toNatClampNeg) = 25 → wp_Learner_askAll (xqv (fun u13 => Q (.inl none) u13) (fun n u => Q (.inr n) u)) σ a1 a3) ∧ ((xi σ 7 a1.toNatClampNeg) = 17 → wp_Learner_explainImplication (xqv (fun u15 => Q (.inl none) u15) (fun n u => Q (.inr n) u)) σ a1) ∧ ((xi σ 7 a1.toNatClampNeg) = 18 → wp_Learner_explainIte (xqv (fun u17 => Q (.inl none) u17) (fun n u => Q (.inr n) u)) σ a1 a2 a3) ∧ ((xi σ 7 a1.toNatClampNeg) = 19 → wp_Learner_explainEqual (xqv (fun u19 => Q (.inl none) u19) (fun n u => Q (.inr n) u)) σ a1 a2) ∧ ((xi σ 7 a1.toNatClampNeg) = 20 → wp_Learner_explainDistinct (xqv (fun u21 => Q (.inl none) u21) (fun n u => Q (.inr n) u)) σ a1) ∧ ((xi σ 7 a1.toNatClampNeg) = 22 ∨ (xi σ 7 a1.toNatClampNeg) = 26 ∨ (xi σ 7 a1.toNatClampNeg) = 28 → wp_Words_upToHighest (xql (fun r24 u23 => wp_Learner_askAll (xqv (fun u25 => Q (.inl none) u25) (fun n u => Q (.inr n) u)) u23 a1 r24) (fun n u => Q (.inr n) u)) σ a3) ∧ ((xi σ 7 a1.toNatClampNeg) = 27 → wp_Words_upToHighest (xql (fun r28 u27 => wp_Learner_explainProduct (xqv (fun u29 => Q (.inl none) u29) (fun n u => Q (.inr n) u)) u27 a1 r28) (fun n u => Q (.inr n) u)) σ a3) ∧ ((xi σ 7 a1.toNatClampNeg) = 29 ∨ (xi σ 7 a1.toNatClampNeg) = 30 ∨ (xi σ 7 a1.toNatClampNeg) = 31 ∨ (xi σ 7 a1.toNatClampNeg) = 32 → (vp_in a2 2000 ∧ wp_Learner_askAll (xqv (fun u31 => Q (.inl none) u31) (fun n u => Q (.inr n) u)) σ a1 (xl σ 13 a2.toNatClampNeg))) ∧ ((xi σ 7 a1.toNatClampNeg) = 33 ∨ (xi σ 7 a1.toNatClampNeg) = 34 → wp_Learner_explainShift (xqv (fun u33 => Q (.inl none) u33) (fun n u => Q (.inr n) u)) σ a1 a2 a3) ∧ ((xi σ 7 a1.toNatClampNeg) = 35 → wp_Learner_explainSignedShift (xqv (fun u35 => Q (.inl none) u35) (fun n u => Q (.inr n) u)) σ a1 a2 a3) ∧ ((xi σ 7 a1.toNatClampNeg) = 44 → wp_Learner_explainConcat (xqv (fun u37 => Q (.inl none) u37) (fun n u => Q (.inr n) u)) σ a1 a3) ∧ ((xi σ 7 a1.toNatClampNeg) = 45 → wp_Learner_explainSelect (xqv (fun u39 => Q (.inl none) u39) (fun n u => Q (.inr n) u)) σ a1 a2 a3) ∧ ((xi σ 7 a1.toNatClampNeg) = 46 → wp_Learner_explainStore (xqv (fun u41 => Q (.inl none) u41) (fun n u => Q (.inr n) u)) σ a1 a2 a3) ∧ (¬ (xi σ 7 a1.toNatClampNeg) = 10 ∧ ¬ (xi σ 7 a1.toNatClampNeg) = 11 ∧ ¬ (xi σ 7 a1.toNatClampNeg) = 12 ∧ ¬ (xi σ 7 a1.toNatClampNeg) = 13 ∧ ¬ (xi σ 7 a1.toNatClampNeg) = 14 ∧ ¬ (xi σ 7 a1.toNatClampNeg) = 15 ∧ ¬ (xi σ 7 a1.toNatClampNeg) = 16 ∧ ¬ (xi σ 7 a1.toNatClampNeg) = 17 ∧ ¬ (xi σ 7 a1.toNatClampNeg) = 18 ∧ ¬ (xi σ 7 a1.toNatClampNeg) = 19 ∧ ¬ (xi σ 7 a1.toNatClampNeg) = 20 ∧ ¬ (xi σ 7 a1.toNatClampNeg) = 21 ∧ ¬ (xi σ 7 a1.toNatClampNeg) = 22 ∧ ¬ (xi σ 7 a1.toNatClampNeg) = 23 ∧ ¬ (xi σ 7 a1.toNatClampNeg) = 24 ∧ ¬ (xi σ 7 a1.toNatClampNeg) = 25 ∧ ¬ (xi σ 7 a1.toNatClampNeg) = 26 ∧ ¬ (xi σ 7 a1.toNatClampNeg) = 27 ∧ ¬ (xi σ 7 a1.toNatClampNeg) = 28 ∧ ¬ (xi σ 7 a1.toNatClampNeg) = 29 ∧ ¬ (xi σ 7 a1.toNatClampNeg) = 30 ∧ ¬ (xi σ 7 a1.toNatClampNeg) = 31 ∧ ¬ (xi σ 7 a1.toNatClampNeg) = 32 ∧ ¬ (xi σ 7 a1.toNatClampNeg) = 33 ∧ ¬ (xi σ 7 a1.toNatClampNeg) = 34 ∧ ¬ (xi σ 7 a1.toNatClampNeg) = 35 ∧ ¬ (xi σ 7 a1.toNatClampNeg) = 44 ∧ ¬ (xi σ 7 a1.toNatClampNeg) = 45 ∧ ¬ (xi σ 7 a1.toNatClampNeg) = 46 → wp_Learner_explainComparison (xqv (fun u43 => Q (.inl none) u43) (fun n u => Q (.inr n) u)) σ a1 a2)))
set_option maxRecDepth 20000 in
theorem sw_Learner_explainTerm_431 {γ : xG1} {d b0 : Nat} {Q : xO → xS → Prop} {t1 : Int32} {t2 : Int64} {t3 : Int32} {σ : xS} (h : w_Learner_explainTerm_431 Q t1 t2 t3 σ) : xJ (SHP, γ) Y_Learner_explainTerm (d + 4) b0 431 [] [.int t3, .long t2, .int t1, .ref 42] σ Q := by
  refine xJ.callV (Y' := Y_Learner_askFilled) (o_Learner_explainTerm 157 rfl) m_Learner_112 y_Learner_askFilled im_Learner_askFilled se_Learner_askFilled rfl rfl (s_Learner_askFilled h) rfl rfl (Nat.le_of_ble_eq_true rfl) (fun _ hx => by cases hx) (fun v u q => ?_) (fun n u q => q)
  obtain ⟨rfl, h⟩ := xqv_get q
  refine xJ.goto (tgt := 463) (o_Learner_explainTerm 158 rfl) (by decide) ?_
  exact xJ.return_ (o_Learner_explainTerm 175 rfl) rfl h
set_option maxRecDepth 20000 in
theorem s_Learner_explainTerm {γ : xG1} {d : Nat} {Q : xO → xS → Prop} {σ : xS} {a1 : Int32} {a2 : Int32} {a3 : Int64} (h : wp_Learner_explainTerm Q σ a1 a2 a3) : xM (SHP, γ) Y_Learner_explainTerm (d + 4) [.ref 42, .int a1, .int a2, .long a3] σ Q := by
  refine xM.of (by decide) (Nat.le_of_ble_eq_true rfl) ?_
  refine xJ.aload_n (o_Learner_explainTerm 0 rfl) rfl ?_
  refine xJ.getfield (o_Learner_explainTerm 1 rfl) f_Learner_25 rfl rfl ?_
  refine xJ.getfield (o_Learner_explainTerm 2 rfl) f_Learner_59 rfl rfl ?_
  refine xJ.iload_n (o_Learner_explainTerm 3 rfl) rfl ?_
  refine xJ.iaload (o_Learner_explainTerm 4 rfl) rfl h.1 ?_
  replace h := h.2
  refine xJ.tsw (o_Learner_explainTerm 5 rfl) (by decide) (sc_Learner_explainTerm_9 (fun z => ?_) (fun z => ?_) (fun z => ?_) (fun z => ?_) (fun z => ?_) (fun z => ?_) (fun z => ?_) (fun z => ?_) (fun z => ?_) (fun z => ?_) (fun z => ?_) (fun z => ?_) (fun z => ?_) (fun z => ?_) (fun z => ?_) (fun z => ?_) (fun z => ?_) (fun z => ?_) (fun z => ?_) (fun z => ?_))
  · replace h := h.1 z
    refine xJ.aload_n (o_Learner_explainTerm 111 rfl) rfl ?_
    refine xJ.iload_n (o_Learner_explainTerm 112 rfl) rfl ?_
    refine xJ.lload_n (o_Learner_explainTerm 113 rfl) rfl ?_
    refine xJ.aload_n (o_Learner_explainTerm 114 rfl) rfl ?_
    refine xJ.getfield (o_Learner_explainTerm 115 rfl) f_Learner_25 rfl rfl ?_
    refine xJ.getfield (o_Learner_explainTerm 116 rfl) f_Learner_65 rfl rfl ?_
    refine xJ.iload_n (o_Learner_explainTerm 117 rfl) rfl ?_
    refine xJ.iaload (o_Learner_explainTerm 118 rfl) rfl h.1 ?_
    replace h := h.2
    refine xJ.lshl (o_Learner_explainTerm 119 rfl) rfl ?_
    refine xJ.callV (Y' := Y_Learner_ask) (o_Learner_explainTerm 120 rfl) m_Learner_40 y_Learner_ask im_Learner_ask se_Learner_ask rfl rfl (s_Learner_ask h) rfl rfl (Nat.le_of_ble_eq_true rfl) (fun _ hx => by cases hx) (fun v u q => ?_) (fun n u q => q)
    obtain ⟨rfl, h⟩ := xqv_get q
    refine xJ.goto (tgt := 463) (o_Learner_explainTerm 121 rfl) (by decide) ?_
    exact xJ.return_ (o_Learner_explainTerm 175 rfl) rfl h
  · replace h := h.2.1 z
    refine xJ.aload_n (o_Learner_explainTerm 122 rfl) rfl ?_
    refine xJ.iload_n (o_Learner_explainTerm 123 rfl) rfl ?_
    refine xJ.lload_n (o_Learner_explainTerm 124 rfl) rfl ?_
    refine xJ.aload_n (o_Learner_explainTerm 125 rfl) rfl ?_
    refine xJ.getfield (o_Learner_explainTerm 126 rfl) f_Learner_25 rfl rfl ?_
    refine xJ.getfield (o_Learner_explainTerm 127 rfl) f_Learner_100 rfl rfl ?_
    refine xJ.iload_n (o_Learner_explainTerm 128 rfl) rfl ?_
    refine xJ.laload (o_Learner_explainTerm 129 rfl) rfl h.1 ?_
    replace h := h.2
    refine xJ.land (o_Learner_explainTerm 130 rfl) ?_
    refine xJ.callV (Y' := Y_Learner_ask) (o_Learner_explainTerm 131 rfl) m_Learner_40 y_Learner_ask im_Learner_ask se_Learner_ask rfl rfl (s_Learner_ask h) rfl rfl (Nat.le_of_ble_eq_true rfl) (fun _ hx => by cases hx) (fun v u q => ?_) (fun n u q => q)
    obtain ⟨rfl, h⟩ := xqv_get q
    refine xJ.goto (tgt := 463) (o_Learner_explainTerm 132 rfl) (by decide) ?_
    exact xJ.return_ (o_Learner_explainTerm 175 rfl) rfl h
  · replace h := h.2.2.1 z
    refine xJ.aload_n (o_Learner_explainTerm 133 rfl) rfl ?_
    refine xJ.iload_n (o_Learner_explainTerm 134 rfl) rfl ?_
    refine xJ.lload_n (o_Learner_explainTerm 135 rfl) rfl ?_
    refine xJ.aload_n (o_Learner_explainTerm 136 rfl) rfl ?_
    refine xJ.getfield (o_Learner_explainTerm 137 rfl) f_Learner_25 rfl rfl ?_
    refine xJ.getfield (o_Learner_explainTerm 138 rfl) f_Learner_100 rfl rfl ?_
    refine xJ.iload_n (o_Learner_explainTerm 139 rfl) rfl ?_
    refine xJ.laload (o_Learner_explainTerm 140 rfl) rfl h.1 ?_
    replace h := h.2
    refine xJ.land (o_Learner_explainTerm 141 rfl) ?_
    refine xJ.lload_n (o_Learner_explainTerm 142 rfl) rfl ?_
    refine xJ.aload_n (o_Learner_explainTerm 143 rfl) rfl ?_
    refine xJ.getfield (o_Learner_explainTerm 144 rfl) f_Learner_25 rfl rfl ?_
    refine xJ.getfield (o_Learner_explainTerm 145 rfl) f_Learner_100 rfl rfl ?_
    refine xJ.iload_n (o_Learner_explainTerm 146 rfl) rfl ?_
    refine xJ.laload (o_Learner_explainTerm 147 rfl) rfl h.1 ?_
    replace h := h.2
    refine xJ.ldc2 (v := (-1)) (o_Learner_explainTerm 148 rfl) k_Learner_68 ?_
    refine xJ.lxor (o_Learner_explainTerm 149 rfl) ?_
    refine xJ.land (o_Learner_explainTerm 150 rfl) ?_
    refine xJ.lconst (v := 0) (o_Learner_explainTerm 151 rfl) (by decide) ?_
    refine xJ.lcmp (o_Learner_explainTerm 152 rfl) ?_
    refine xJ.if_eq (tgt := 430) (o_Learner_explainTerm 153 rfl) (by decide) (fun z => ?_) (fun z => ?_)
    · replace h := h.1 z
      refine xJ.iconst (v := 0) (o_Learner_explainTerm 156 rfl) (by decide) ?_
      exact xJ.lvs (by exact trivial) (sw_Learner_explainTerm_431 h)
    · replace h := h.2 z
      refine xJ.iconst (v := 1) (o_Learner_explainTerm 154 rfl) (by decide) ?_
      refine xJ.goto (tgt := 431) (o_Learner_explainTerm 155 rfl) (by decide) ?_
      exact xJ.lvs (by exact trivial) (sw_Learner_explainTerm_431 h)
  · replace h := h.2.2.2.1 z
    refine xJ.aload_n (o_Learner_explainTerm 6 rfl) rfl ?_
    refine xJ.iload_n (o_Learner_explainTerm 7 rfl) rfl ?_
    refine xJ.lload_n (o_Learner_explainTerm 8 rfl) rfl ?_
    refine xJ.callV (Y' := Y_Learner_ask) (o_Learner_explainTerm 9 rfl) m_Learner_40 y_Learner_ask im_Learner_ask se_Learner_ask rfl rfl (s_Learner_ask h) rfl rfl (Nat.le_of_ble_eq_true rfl) (fun _ hx => by cases hx) (fun v u q => ?_) (fun n u q => q)
    obtain ⟨rfl, h⟩ := xqv_get q
    refine xJ.goto (tgt := 463) (o_Learner_explainTerm 10 rfl) (by decide) ?_
    exact xJ.return_ (o_Learner_explainTerm 175 rfl) rfl h
  · replace h := h.2.2.2.2.1 z
    refine xJ.aload_n (o_Learner_explainTerm 11 rfl) rfl ?_
    refine xJ.iload_n (o_Learner_explainTerm 12 rfl) rfl ?_
    refine xJ.lload_n (o_Learner_explainTerm 13 rfl) rfl ?_
    refine xJ.aload_n (o_Learner_explainTerm 14 rfl) rfl ?_
    refine xJ.getfield (o_Learner_explainTerm 15 rfl) f_Learner_26 rfl rfl ?_
    refine xJ.iload_n (o_Learner_explainTerm 16 rfl) rfl ?_
    refine xJ.laload (o_Learner_explainTerm 17 rfl) rfl h.1 ?_
    replace h := h.2
    refine xJ.land (o_Learner_explainTerm 18 rfl) ?_
    refine xJ.lload_n (o_Learner_explainTerm 19 rfl) rfl ?_
    refine xJ.aload_n (o_Learner_explainTerm 20 rfl) rfl ?_
    refine xJ.getfield (o_Learner_explainTerm 21 rfl) f_Learner_26 rfl rfl ?_
    refine xJ.iload_n (o_Learner_explainTerm 22 rfl) rfl ?_
    refine xJ.laload (o_Learner_explainTerm 23 rfl) rfl h.1 ?_
    replace h := h.2
    refine xJ.ldc2 (v := (-1)) (o_Learner_explainTerm 24 rfl) k_Learner_68 ?_
    refine xJ.lxor (o_Learner_explainTerm 25 rfl) ?_
    refine xJ.land (o_Learner_explainTerm 26 rfl) ?_
    refine xJ.ldc2 (v := (-1)) (o_Learner_explainTerm 27 rfl) k_Learner_68 ?_
    refine xJ.callV (Y' := Y_Learner_explainBitwise) (o_Learner_explainTerm 28 rfl) m_Learner_70 y_Learner_explainBitwise im_Learner_explainBitwise se_Learner_explainBitwise rfl rfl (s_Learner_explainBitwise h) rfl rfl (Nat.le_of_ble_eq_true rfl) (fun _ hx => by cases hx) (fun v u q => ?_) (fun n u q => q)
    obtain ⟨rfl, h⟩ := xqv_get q
    refine xJ.goto (tgt := 463) (o_Learner_explainTerm 29 rfl) (by decide) ?_
    exact xJ.return_ (o_Learner_explainTerm 175 rfl) rfl h
  · replace h := h.2.2.2.2.2.1 z
    refine xJ.aload_n (o_Learner_explainTerm 30 rfl) rfl ?_
    refine xJ.iload_n (o_Learner_explainTerm 31 rfl) rfl ?_
    refine xJ.lload_n (o_Learner_explainTerm 32 rfl) rfl ?_
    refine xJ.aload_n (o_Learner_explainTerm 33 rfl) rfl ?_
    refine xJ.getfield (o_Learner_explainTerm 34 rfl) f_Learner_26 rfl rfl ?_
    refine xJ.iload_n (o_Learner_explainTerm 35 rfl) rfl ?_
    refine xJ.laload (o_Learner_explainTerm 36 rfl) rfl h.1 ?_
    replace h := h.2
    refine xJ.ldc2 (v := (-1)) (o_Learner_explainTerm 37 rfl) k_Learner_68 ?_
    refine xJ.lxor (o_Learner_explainTerm 38 rfl) ?_
    refine xJ.land (o_Learner_explainTerm 39 rfl) ?_
    refine xJ.lload_n (o_Learner_explainTerm 40 rfl) rfl ?_
    refine xJ.aload_n (o_Learner_explainTerm 41 rfl) rfl ?_
    refine xJ.getfield (o_Learner_explainTerm 42 rfl) f_Learner_26 rfl rfl ?_
    refine xJ.iload_n (o_Learner_explainTerm 43 rfl) rfl ?_
    refine xJ.laload (o_Learner_explainTerm 44 rfl) rfl h.1 ?_
    replace h := h.2
    refine xJ.land (o_Learner_explainTerm 45 rfl) ?_
    refine xJ.lconst (v := 0) (o_Learner_explainTerm 46 rfl) (by decide) ?_
    refine xJ.callV (Y' := Y_Learner_explainBitwise) (o_Learner_explainTerm 47 rfl) m_Learner_70 y_Learner_explainBitwise im_Learner_explainBitwise se_Learner_explainBitwise rfl rfl (s_Learner_explainBitwise h) rfl rfl (Nat.le_of_ble_eq_true rfl) (fun _ hx => by cases hx) (fun v u q => ?_) (fun n u q => q)
    obtain ⟨rfl, h⟩ := xqv_get q
    refine xJ.goto (tgt := 463) (o_Learner_explainTerm 48 rfl) (by decide) ?_
    exact xJ.return_ (o_Learner_explainTerm 175 rfl) rfl h
  · replace h := h.2.2.2.2.2.2.1 z
    refine xJ.aload_n (o_Learner_explainTerm 49 rfl) rfl ?_
    refine xJ.iload_n (o_Learner_explainTerm 50 rfl) rfl ?_
    refine xJ.lload_n (o_Learner_explainTerm 51 rfl) rfl ?_
    refine xJ.callV (Y' := Y_Learner_askAll) (o_Learner_explainTerm 52 rfl) m_Learner_74 y_Learner_askAll im_Learner_askAll se_Learner_askAll rfl rfl (s_Learner_askAll h) rfl rfl (Nat.le_of_ble_eq_true rfl) (fun _ hx => by cases hx) (fun v u q => ?_) (fun n u q => q)
    obtain ⟨rfl, h⟩ := xqv_get q
    refine xJ.goto (tgt := 463) (o_Learner_explainTerm 53 rfl) (by decide) ?_
    exact xJ.return_ (o_Learner_explainTerm 175 rfl) rfl h
  · replace h := h.2.2.2.2.2.2.2.1 z
    refine xJ.aload_n (o_Learner_explainTerm 54 rfl) rfl ?_
    refine xJ.iload_n (o_Learner_explainTerm 55 rfl) rfl ?_
    refine xJ.callV (Y' := Y_Learner_explainImplication) (o_Learner_explainTerm 56 rfl) m_Learner_77 y_Learner_explainImplication im_Learner_explainImplication se_Learner_explainImplication rfl rfl (s_Learner_explainImplication h) rfl rfl (Nat.le_of_ble_eq_true rfl) (fun _ hx => by cases hx) (fun v u q => ?_) (fun n u q => q)
    obtain ⟨rfl, h⟩ := xqv_get q
    refine xJ.goto (tgt := 463) (o_Learner_explainTerm 57 rfl) (by decide) ?_
    exact xJ.return_ (o_Learner_explainTerm 175 rfl) rfl h
  · replace h := h.2.2.2.2.2.2.2.2.1 z
    refine xJ.aload_n (o_Learner_explainTerm 58 rfl) rfl ?_
    refine xJ.iload_n (o_Learner_explainTerm 59 rfl) rfl ?_
    refine xJ.iload_n (o_Learner_explainTerm 60 rfl) rfl ?_
    refine xJ.lload_n (o_Learner_explainTerm 61 rfl) rfl ?_
    refine xJ.callV (Y' := Y_Learner_explainIte) (o_Learner_explainTerm 62 rfl) m_Learner_81 y_Learner_explainIte im_Learner_explainIte se_Learner_explainIte rfl rfl (s_Learner_explainIte h) rfl rfl (Nat.le_of_ble_eq_true rfl) (fun _ hx => by cases hx) (fun v u q => ?_) (fun n u q => q)
    obtain ⟨rfl, h⟩ := xqv_get q
    refine xJ.goto (tgt := 463) (o_Learner_explainTerm 63 rfl) (by decide) ?_
    exact xJ.return_ (o_Learner_explainTerm 175 rfl) rfl h
  · replace h := h.2.2.2.2.2.2.2.2.2.1 z
    refine xJ.aload_n (o_Learner_explainTerm 64 rfl) rfl ?_
    refine xJ.iload_n (o_Learner_explainTerm 65 rfl) rfl ?_
    refine xJ.iload_n (o_Learner_explainTerm 66 rfl) rfl ?_
    refine xJ.callV (Y' := Y_Learner_explainEqual) (o_Learner_explainTerm 67 rfl) m_Learner_84 y_Learner_explainEqual im_Learner_explainEqual se_Learner_explainEqual rfl rfl (s_Learner_explainEqual h) rfl rfl (Nat.le_of_ble_eq_true rfl) (fun _ hx => by cases hx) (fun v u q => ?_) (fun n u q => q)
    obtain ⟨rfl, h⟩ := xqv_get q
    refine xJ.goto (tgt := 463) (o_Learner_explainTerm 68 rfl) (by decide) ?_
    exact xJ.return_ (o_Learner_explainTerm 175 rfl) rfl h
  · replace h := h.2.2.2.2.2.2.2.2.2.2.1 z
    refine xJ.aload_n (o_Learner_explainTerm 69 rfl) rfl ?_
    refine xJ.iload_n (o_Learner_explainTerm 70 rfl) rfl ?_
    refine xJ.callV (Y' := Y_Learner_explainDistinct) (o_Learner_explainTerm 71 rfl) m_Learner_88 y_Learner_explainDistinct im_Learner_explainDistinct se_Learner_explainDistinct rfl rfl (s_Learner_explainDistinct h) rfl rfl (Nat.le_of_ble_eq_true rfl) (fun _ hx => by cases hx) (fun v u q => ?_) (fun n u q => q)
    obtain ⟨rfl, h⟩ := xqv_get q
    refine xJ.goto (tgt := 463) (o_Learner_explainTerm 72 rfl) (by decide) ?_
    exact xJ.return_ (o_Learner_explainTerm 175 rfl) rfl h
  · replace h := h.2.2.2.2.2.2.2.2.2.2.2.1 z
    refine xJ.aload_n (o_Learner_explainTerm 73 rfl) rfl ?_
    refine xJ.iload_n (o_Learner_explainTerm 74 rfl) rfl ?_
    refine xJ.lload_n (o_Learner_explainTerm 75 rfl) rfl ?_
    refine xJ.callS (Y' := Y_Words_upToHighest) (o_Learner_explainTerm 76 rfl) m_Learner_91 y_Words_upToHighest st_Words_upToHighest (s_Words_upToHighest h) rfl rfl (Nat.le_of_ble_eq_true rfl) (fun _ hx => by cases hx) (fun v u q => ?_) (fun n u q => q)
    obtain ⟨r, rfl, h⟩ := xql_get q
    refine xJ.callV (Y' := Y_Learner_askAll) (o_Learner_explainTerm 77 rfl) m_Learner_74 y_Learner_askAll im_Learner_askAll se_Learner_askAll rfl rfl (s_Learner_askAll h) rfl rfl (Nat.le_of_ble_eq_true rfl) (fun _ hx => by cases hx) (fun v u q => ?_) (fun n u q => q)
    obtain ⟨rfl, h⟩ := xqv_get q
    refine xJ.goto (tgt := 463) (o_Learner_explainTerm 78 rfl) (by decide) ?_
    exact xJ.return_ (o_Learner_explainTerm 175 rfl) rfl h
  · replace h := h.2.2.2.2.2.2.2.2.2.2.2.2.1 z
    refine xJ.aload_n (o_Learner_explainTerm 79 rfl) rfl ?_
    refine xJ.iload_n (o_Learner_explainTerm 80 rfl) rfl ?_
    refine xJ.lload_n (o_Learner_explainTerm 81 rfl) rfl ?_
    refine xJ.callS (Y' := Y_Words_upToHighest) (o_Learner_explainTerm 82 rfl) m_Learner_91 y_Words_upToHighest st_Words_upToHighest (s_Words_upToHighest h) rfl rfl (Nat.le_of_ble_eq_true rfl) (fun _ hx => by cases hx) (fun v u q => ?_) (fun n u q => q)
    obtain ⟨r, rfl, h⟩ := xql_get q
    refine xJ.callV (Y' := Y_Learner_explainProduct) (o_Learner_explainTerm 83 rfl) m_Learner_97 y_Learner_explainProduct im_Learner_explainProduct se_Learner_explainProduct rfl rfl (s_Learner_explainProduct h) rfl rfl (Nat.le_of_ble_eq_true rfl) (fun _ hx => by cases hx) (fun v u q => ?_) (fun n u q => q)
    obtain ⟨rfl, h⟩ := xqv_get q
    refine xJ.goto (tgt := 463) (o_Learner_explainTerm 84 rfl) (by decide) ?_
    exact xJ.return_ (o_Learner_explainTerm 175 rfl) rfl h
  · replace h := h.2.2.2.2.2.2.2.2.2.2.2.2.2.1 z
    refine xJ.aload_n (o_Learner_explainTerm 85 rfl) rfl ?_
    refine xJ.iload_n (o_Learner_explainTerm 86 rfl) rfl ?_
    refine xJ.aload_n (o_Learner_explainTerm 87 rfl) rfl ?_
    refine xJ.getfield (o_Learner_explainTerm 88 rfl) f_Learner_25 rfl rfl ?_
    refine xJ.getfield (o_Learner_explainTerm 89 rfl) f_Learner_100 rfl rfl ?_
    refine xJ.iload_n (o_Learner_explainTerm 90 rfl) rfl ?_
    refine xJ.laload (o_Learner_explainTerm 91 rfl) rfl h.1 ?_
    replace h := h.2
    refine xJ.callV (Y' := Y_Learner_askAll) (o_Learner_explainTerm 92 rfl) m_Learner_74 y_Learner_askAll im_Learner_askAll se_Learner_askAll rfl rfl (s_Learner_askAll h) rfl rfl (Nat.le_of_ble_eq_true rfl) (fun _ hx => by cases hx) (fun v u q => ?_) (fun n u q => q)
    obtain ⟨rfl, h⟩ := xqv_get q
    refine xJ.goto (tgt := 463) (o_Learner_explainTerm 93 rfl) (by decide) ?_
    exact xJ.return_ (o_Learner_explainTerm 175 rfl) rfl h
  · replace h := h.2.2.2.2.2.2.2.2.2.2.2.2.2.2.1 z
    refine xJ.aload_n (o_Learner_explainTerm 94 rfl) rfl ?_
    refine xJ.iload_n (o_Learner_explainTerm 95 rfl) rfl ?_
    refine xJ.iload_n (o_Learner_explainTerm 96 rfl) rfl ?_
    refine xJ.lload_n (o_Learner_explainTerm 97 rfl) rfl ?_
    refine xJ.callV (Y' := Y_Learner_explainShift) (o_Learner_explainTerm 98 rfl) m_Learner_103 y_Learner_explainShift im_Learner_explainShift se_Learner_explainShift rfl rfl (s_Learner_explainShift h) rfl rfl (Nat.le_of_ble_eq_true rfl) (fun _ hx => by cases hx) (fun v u q => ?_) (fun n u q => q)
    obtain ⟨rfl, h⟩ := xqv_get q
    refine xJ.goto (tgt := 463) (o_Learner_explainTerm 99 rfl) (by decide) ?_
    exact xJ.return_ (o_Learner_explainTerm 175 rfl) rfl h
  · replace h := h.2.2.2.2.2.2.2.2.2.2.2.2.2.2.2.1 z
    refine xJ.aload_n (o_Learner_explainTerm 100 rfl) rfl ?_
    refine xJ.iload_n (o_Learner_explainTerm 101 rfl) rfl ?_
    refine xJ.iload_n (o_Learner_explainTerm 102 rfl) rfl ?_
    refine xJ.lload_n (o_Learner_explainTerm 103 rfl) rfl ?_
    refine xJ.callV (Y' := Y_Learner_explainSignedShift) (o_Learner_explainTerm 104 rfl) m_Learner_106 y_Learner_explainSignedShift im_Learner_explainSignedShift se_Learner_explainSignedShift rfl rfl (s_Learner_explainSignedShift h) rfl rfl (Nat.le_of_ble_eq_true rfl) (fun _ hx => by cases hx) (fun v u q => ?_) (fun n u q => q)
    obtain ⟨rfl, h⟩ := xqv_get q
    refine xJ.goto (tgt := 463) (o_Learner_explainTerm 105 rfl) (by decide) ?_
    exact xJ.return_ (o_Learner_explainTerm 175 rfl) rfl h
  · replace h := h.2.2.2.2.2.2.2.2.2.2.2.2.2.2.2.2.1 z
    refine xJ.aload_n (o_Learner_explainTerm 106 rfl) rfl ?_
    refine xJ.iload_n (o_Learner_explainTerm 107 rfl) rfl ?_
    refine xJ.lload_n (o_Learner_explainTerm 108 rfl) rfl ?_
    refine xJ.callV (Y' := Y_Learner_explainConcat) (o_Learner_explainTerm 109 rfl) m_Learner_109 y_Learner_explainConcat im_Learner_explainConcat se_Learner_explainConcat rfl rfl (s_Learner_explainConcat h) rfl rfl (Nat.le_of_ble_eq_true rfl) (fun _ hx => by cases hx) (fun v u q => ?_) (fun n u q => q)
    obtain ⟨rfl, h⟩ := xqv_get q
    refine xJ.goto (tgt := 463) (o_Learner_explainTerm 110 rfl) (by decide) ?_
    exact xJ.return_ (o_Learner_explainTerm 175 rfl) rfl h
  · replace h := h.2.2.2.2.2.2.2.2.2.2.2.2.2.2.2.2.2.1 z
    refine xJ.aload_n (o_Learner_explainTerm 159 rfl) rfl ?_
    refine xJ.iload_n (o_Learner_explainTerm 160 rfl) rfl ?_
    refine xJ.iload_n (o_Learner_explainTerm 161 rfl) rfl ?_
    refine xJ.lload_n (o_Learner_explainTerm 162 rfl) rfl ?_
    refine xJ.callV (Y' := Y_Learner_explainSelect) (o_Learner_explainTerm 163 rfl) m_Learner_116 y_Learner_explainSelect im_Learner_explainSelect se_Learner_explainSelect rfl rfl (s_Learner_explainSelect h) rfl rfl (Nat.le_of_ble_eq_true rfl) (fun _ hx => by cases hx) (fun v u q => ?_) (fun n u q => q)
    obtain ⟨rfl, h⟩ := xqv_get q
    refine xJ.goto (tgt := 463) (o_Learner_explainTerm 164 rfl) (by decide) ?_
    exact xJ.return_ (o_Learner_explainTerm 175 rfl) rfl h
  · replace h := h.2.2.2.2.2.2.2.2.2.2.2.2.2.2.2.2.2.2.1 z
    refine xJ.aload_n (o_Learner_explainTerm 165 rfl) rfl ?_
    refine xJ.iload_n (o_Learner_explainTerm 166 rfl) rfl ?_
    refine xJ.iload_n (o_Learner_explainTerm 167 rfl) rfl ?_
    refine xJ.lload_n (o_Learner_explainTerm 168 rfl) rfl ?_
    refine xJ.callV (Y' := Y_Learner_explainStore) (o_Learner_explainTerm 169 rfl) m_Learner_119 y_Learner_explainStore im_Learner_explainStore se_Learner_explainStore rfl rfl (s_Learner_explainStore h) rfl rfl (Nat.le_of_ble_eq_true rfl) (fun _ hx => by cases hx) (fun v u q => ?_) (fun n u q => q)
    obtain ⟨rfl, h⟩ := xqv_get q
    refine xJ.goto (tgt := 463) (o_Learner_explainTerm 170 rfl) (by decide) ?_
    exact xJ.return_ (o_Learner_explainTerm 175 rfl) rfl h
  · replace h := h.2.2.2.2.2.2.2.2.2.2.2.2.2.2.2.2.2.2.2 z
    refine xJ.aload_n (o_Learner_explainTerm 171 rfl) rfl ?_
    refine xJ.iload_n (o_Learner_explainTerm 172 rfl) rfl ?_
    refine xJ.iload_n (o_Learner_explainTerm 173 rfl) rfl ?_
    refine xJ.callV (Y' := Y_Learner_explainComparison) (o_Learner_explainTerm 174 rfl) m_Learner_122 y_Learner_explainComparison im_Learner_explainComparison se_Learner_explainComparison rfl rfl (s_Learner_explainComparison h) rfl rfl (Nat.le_of_ble_eq_true rfl) (fun _ hx => by cases hx) (fun v u q => ?_) (fun n u q => q)
    obtain ⟨rfl, h⟩ := xqv_get q
    exact xJ.return_ (o_Learner_explainTerm 175 rfl) rfl h
def w_Learner_explain_18 (Q : xO → xS → Prop) : Nat → Int32 → Int32 → xS → Prop
  | 0 => fun _ _ _ => False
  | n + 1 => fun a1 a3 σ =>
    (vp_in a1 2000 ∧ ((a3 < (xi σ 14 a1.toNatClampNeg) → Q (.inl (some (.int (xi σ 42 6)))) σ) ∧ (¬ a3 < (xi σ 14 a1.toNatClampNeg) → (vp_in a3 2000 ∧ (∀ x5 : Int64, x5 = (xl σ 43 a3.toNatClampNeg) → (((lg_cmp x5 0) = 0 → (∀ x6 : Int32, x6 = a3 + (-1) → w_Learner_explain_18 Q n a1 x6 σ)) ∧ (¬ (lg_cmp x5 0) = 0 → (vp_in a3 2000 ∧ (∀ s7 : xS, s7 = xpl σ 43 a3.toNatClampNeg 0 → (vp_in a3 2001 ∧ (vp_in (xi s7 9 a3.toNatClampNeg) 80000 ∧ wp_Learner_explainTerm (xqv (fun u8 => (∀ x10 : Int32, x10 = a3 + (-1) → w_Learner_explain_18 Q n a1 x10 u8)) (fun n u => Q (.inr n) u)) s7 a3 (xi s7 10 (xi s7 9 a3.toNatClampNeg).toNatClampNeg) x5)))))))))))
def wp_Learner_explain (Q : xO → xS → Prop) (σ : xS) (a1 : Int32) (a2 : Int32) : Prop :=
  (∀ s1 : xS, s1 = xpi σ 42 5 a2 → (∀ s2 : xS, s2 = xpi s1 42 6 0 → wp_Learner_ask (xqv (fun u3 => ∃ m, w_Learner_explain_18 Q m a1 a1 u3) (fun n u => Q (.inr n) u)) s2 a1 1))
set_option maxRecDepth 20000 in
theorem sw_Learner_explain_18 {γ : xG1} {d b0 : Nat} {Q : xO → xS → Prop} : ∀ (n : Nat) (a1 : Int32) (a3 : Int32) (σ : xS), w_Learner_explain_18 Q n a1 a3 σ → xJ (SHP, γ) Y_Learner_explain (d + 5) b0 18 [(0, .ref 42), (1, .int a1), (3, .int a3)] [] σ Q := by
  intro n
  induction n with
  | zero => intro a1 a3 σ h; exact h.elim
  | succ n ih =>
    intro a1 a3 σ h
    refine xJ.iload_n (o_Learner_explain 12 rfl) rfl ?_
    refine xJ.aload_n (o_Learner_explain 13 rfl) rfl ?_
    refine xJ.getfield (o_Learner_explain 14 rfl) f_Learner_25 rfl rfl ?_
    refine xJ.getfield (o_Learner_explain 15 rfl) f_Learner_44 rfl rfl ?_
    refine xJ.iload_n (o_Learner_explain 16 rfl) rfl ?_
    refine xJ.iaload (o_Learner_explain 17 rfl) rfl h.1 ?_
    replace h := h.2
    refine xJ.icmp_lt (tgt := 83) (o_Learner_explain 18 rfl) (by decide) (fun z => ?_) (fun z => ?_)
    · replace h := h.1 z
      refine xJ.aload_n (o_Learner_explain 48 rfl) rfl ?_
      refine xJ.getfield (o_Learner_explain 49 rfl) f_Learner_37 rfl rfl ?_
      exact xJ.ireturn (o_Learner_explain 50 rfl) rfl h
    · replace h := h.2 z
      refine xJ.aload_n (o_Learner_explain 19 rfl) rfl ?_
      refine xJ.getfield (o_Learner_explain 20 rfl) f_Learner_9 rfl rfl ?_
      refine xJ.iload_n (o_Learner_explain 21 rfl) rfl ?_
      refine xJ.laload (o_Learner_explain 22 rfl) rfl h.1 ?_
      replace h := h.2
      refine xJ.lstore (o_Learner_explain 23 rfl) (by decide) ?_
      replace h := h _ rfl
      refine xJ.lload (o_Learner_explain 24 rfl) rfl ?_
      refine xJ.lconst (v := 0) (o_Learner_explain 25 rfl) (by decide) ?_
      refine xJ.lcmp (o_Learner_explain 26 rfl) ?_
      refine xJ.if_eq (tgt := 77) (o_Learner_explain 27 rfl) (by decide) (fun z => ?_) (fun z => ?_)
      · replace h := h.1 z
        refine xJ.iincC (w := (-1)) (o_Learner_explain 46 rfl) rfl (by decide) (by decide) ?_
        replace h := h _ rfl
        refine xJ.goto (tgt := 18) (o_Learner_explain 47 rfl) (by decide) ?_
        exact xJ.lvs (by exact ⟨rfl, rfl, rfl, trivial⟩) (ih _ _ _ h)
      · replace h := h.2 z
        refine xJ.aload_n (o_Learner_explain 28 rfl) rfl ?_
        refine xJ.getfield (o_Learner_explain 29 rfl) f_Learner_9 rfl rfl ?_
        refine xJ.iload_n (o_Learner_explain 30 rfl) rfl ?_
        refine xJ.lconst (v := 0) (o_Learner_explain 31 rfl) (by decide) ?_
        refine xJ.lastore (o_Learner_explain 32 rfl) rfl h.1 ?_
        replace h := h.2
        replace h := h _ rfl
        refine xJ.aload_n (o_Learner_explain 33 rfl) rfl ?_
        refine xJ.iload_n (o_Learner_explain 34 rfl) rfl ?_
        refine xJ.aload_n (o_Learner_explain 35 rfl) rfl ?_
        refine xJ.getfield (o_Learner_explain 36 rfl) f_Learner_25 rfl rfl ?_
        refine xJ.getfield (o_Learner_explain 37 rfl) f_Learner_49 rfl rfl ?_
        refine xJ.aload_n (o_Learner_explain 38 rfl) rfl ?_
        refine xJ.getfield (o_Learner_explain 39 rfl) f_Learner_25 rfl rfl ?_
        refine xJ.getfield (o_Learner_explain 40 rfl) f_Learner_52 rfl rfl ?_
        refine xJ.iload_n (o_Learner_explain 41 rfl) rfl ?_
        refine xJ.iaload (o_Learner_explain 42 rfl) rfl h.1 ?_
        replace h := h.2
        refine xJ.iaload (o_Learner_explain 43 rfl) rfl h.1 ?_
        replace h := h.2
        refine xJ.lload (o_Learner_explain 44 rfl) rfl ?_
        refine xJ.callV (Y' := Y_Learner_explainTerm) (o_Learner_explain 45 rfl) m_Learner_55 y_Learner_explainTerm im_Learner_explainTerm se_Learner_explainTerm rfl rfl (s_Learner_explainTerm h) rfl rfl (Nat.le_of_ble_eq_true rfl) (fun _ hx => by cases hx) (fun v u q => ?_) (fun n u q => q)
        obtain ⟨rfl, h⟩ := xqv_get q
        refine xJ.iincC (w := (-1)) (o_Learner_explain 46 rfl) rfl (by decide) (by decide) ?_
        replace h := h _ rfl
        refine xJ.goto (tgt := 18) (o_Learner_explain 47 rfl) (by decide) ?_
        exact xJ.lvs (by exact ⟨rfl, rfl, rfl, trivial⟩) (ih _ _ _ h)
set_option maxRecDepth 20000 in
theorem s_Learner_explain {γ : xG1} {d : Nat} {Q : xO → xS → Prop} {σ : xS} {a1 : Int32} {a2 : Int32} (h : wp_Learner_explain Q σ a1 a2) : xM (SHP, γ) Y_Learner_explain (d + 5) [.ref 42, .int a1, .int a2] σ Q := by
  refine xM.of (by decide) (Nat.le_of_ble_eq_true rfl) ?_
  refine xJ.aload_n (o_Learner_explain 0 rfl) rfl ?_
  refine xJ.iload_n (o_Learner_explain 1 rfl) rfl ?_
  refine xJ.putI (o_Learner_explain 2 rfl) f_Learner_33 rfl rfl rfl ?_
  replace h := h _ rfl
  refine xJ.aload_n (o_Learner_explain 3 rfl) rfl ?_
  refine xJ.iconst (v := 0) (o_Learner_explain 4 rfl) (by decide) ?_
  refine xJ.putI (o_Learner_explain 5 rfl) f_Learner_37 rfl rfl rfl ?_
  replace h := h _ rfl
  refine xJ.aload_n (o_Learner_explain 6 rfl) rfl ?_
  refine xJ.iload_n (o_Learner_explain 7 rfl) rfl ?_
  refine xJ.lconst (v := 1) (o_Learner_explain 8 rfl) (by decide) ?_
  refine xJ.callV (Y' := Y_Learner_ask) (o_Learner_explain 9 rfl) m_Learner_40 y_Learner_ask im_Learner_ask se_Learner_ask rfl rfl (s_Learner_ask h) rfl rfl (Nat.le_of_ble_eq_true rfl) (fun _ hx => by cases hx) (fun v u q => ?_) (fun n u q => q)
  obtain ⟨rfl, h⟩ := xqv_get q
  refine xJ.iload_n (o_Learner_explain 10 rfl) rfl ?_
  refine xJ.istore_n (o_Learner_explain 11 rfl) (by decide) ?_
  obtain ⟨m, h⟩ := h
  exact xJ.lvs (by exact ⟨rfl, rfl, rfl, trivial⟩) (sw_Learner_explain_18 m _ _ _ h)
