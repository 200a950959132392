theorem sc_Evaluator_folded_70 {x : Int32} {P : Nat → Prop} (k0 : x = 14 ∨ x = 23 → P 136) (k1 : x = 15 ∨ x = 24 → P 144) (k2 : x = 16 ∨ x = 25 → P 152) (k3 : x = 26 → P 160) (kd : ¬ x = 14 ∧ ¬ x = 15 ∧ ¬ x = 16 ∧ ¬ x = 23 ∧ ¬ x = 24 ∧ ¬ x = 25 ∧ ¬ x = 26 → P 168) : ∃ t : Nat, xdst 70 98 14 26 #[66, 74, 82, 98, 98, 98, 98, 98, 98, 66, 74, 82, 90] x = (t : Int) ∧ P t := by
  by_cases h0_0 : x = 14
  · subst h0_0; exact ⟨136, by decide, k0 (Or.inl rfl)⟩
  by_cases h0_1 : x = 23
  · subst h0_1; exact ⟨136, by decide, k0 (Or.inr (rfl))⟩
  by_cases h1_0 : x = 15
  · subst h1_0; exact ⟨144, by decide, k1 (Or.inl rfl)⟩
  by_cases h1_1 : x = 24
  · subst h1_1; exact ⟨144, by decide, k1 (Or.inr (rfl))⟩
  by_cases h2_0 : x = 16
  · subst h2_0; exact ⟨152, by decide, k2 (Or.inl rfl)⟩
  by_cases h2_1 : x = 25
  · subst h2_1; exact ⟨152, by decide, k2 (Or.inr (rfl))⟩
  by_cases h3_0 : x = 26
  · subst h3_0; exact ⟨160, by decide, k3 (rfl)⟩
  have nh0_0 := lv_neT h0_0 (show (14 : Int32).toInt = 14 by decide)
  have nh0_1 := lv_neT h0_1 (show (23 : Int32).toInt = 23 by decide)
  have nh1_0 := lv_neT h1_0 (show (15 : Int32).toInt = 15 by decide)
  have nh1_1 := lv_neT h1_1 (show (24 : Int32).toInt = 24 by decide)
  have nh2_0 := lv_neT h2_0 (show (16 : Int32).toInt = 16 by decide)
  have nh2_1 := lv_neT h2_1 (show (25 : Int32).toInt = 25 by decide)
  have nh3_0 := lv_neT h3_0 (show (26 : Int32).toInt = 26 by decide)
  refine ⟨168, ?_, kd ⟨h0_0, h1_0, h2_0, h0_1, h1_1, h2_1, h3_0⟩⟩
  by_cases d3 : x = 17
  · subst d3; decide
  by_cases d4 : x = 18
  · subst d4; decide
  by_cases d5 : x = 19
  · subst d5; decide
  by_cases d6 : x = 20
  · subst d6; decide
  by_cases d7 : x = 21
  · subst d7; decide
  by_cases d8 : x = 22
  · subst d8; decide
  have nd3 := lv_neT d3 (show (17 : Int32).toInt = 17 by decide)
  have nd4 := lv_neT d4 (show (18 : Int32).toInt = 18 by decide)
  have nd5 := lv_neT d5 (show (19 : Int32).toInt = 19 by decide)
  have nd6 := lv_neT d6 (show (20 : Int32).toInt = 20 by decide)
  have nd7 := lv_neT d7 (show (21 : Int32).toInt = 21 by decide)
  have nd8 := lv_neT d8 (show (22 : Int32).toInt = 22 by decide)
  exact xdst_out (by omega) rfl
def w_Evaluator_folded_48_36 (Q : xO → xS → Prop) : Nat → Int32 → Int32 → Int64 → Int32 → xS → Prop
  | 0 => fun _ _ _ _ _ => False
  | n + 1 => fun a1 a2 a3 a5 σ =>
    (vp_in (a1 + 1) 2001 ∧ (((xi σ 9 (a1 + 1).toNatClampNeg) ≤ a5 → Q (.inl (some (.long a3))) σ) ∧ (¬ (xi σ 9 (a1 + 1).toNatClampNeg) ≤ a5 → (vp_in a5 80000 ∧ (vp_in (xi σ 10 a5.toNatClampNeg) 2000 ∧ (∀ x3 : Int64, x3 = (xl σ 49 (xi σ 10 a5.toNatClampNeg).toNatClampNeg) → ((a2 = 14 ∨ a2 = 23 → (∀ x4 : Int64, x4 = (a3 &&& x3) → (∀ x5 : Int32, x5 = a5 + 1 → w_Evaluator_folded_48_36 Q n a1 a2 x4 x5 σ))) ∧ (a2 = 15 ∨ a2 = 24 → (∀ x6 : Int64, x6 = (a3 ||| x3) → (∀ x7 : Int32, x7 = a5 + 1 → w_Evaluator_folded_48_36 Q n a1 a2 x6 x7 σ))) ∧ (a2 = 16 ∨ a2 = 25 → (∀ x8 : Int64, x8 = (a3 ^^^ x3) → (∀ x9 : Int32, x9 = a5 + 1 → w_Evaluator_folded_48_36 Q n a1 a2 x8 x9 σ))) ∧ (a2 = 26 → (∀ x10 : Int64, x10 = (a3 + x3) → (∀ x11 : Int32, x11 = a5 + 1 → w_Evaluator_folded_48_36 Q n a1 a2 x10 x11 σ))) ∧ (¬ a2 = 14 ∧ ¬ a2 = 15 ∧ ¬ a2 = 16 ∧ ¬ a2 = 23 ∧ ¬ a2 = 24 ∧ ¬ a2 = 25 ∧ ¬ a2 = 26 → (∀ x12 : Int64, x12 = (a3 * x3) → (∀ x13 : Int32, x13 = a5 + 1 → w_Evaluator_folded_48_36 Q n a1 a2 x12 x13 σ))))))))))
def wp_Evaluator_folded_48 (Q : xO → xS → Prop) (σ : xS) (a1 : Int32) (a2 : Int32) : Prop :=
  (vp_in a1 2001 ∧ (vp_in (xi σ 9 a1.toNatClampNeg) 80000 ∧ (vp_in (xi σ 10 (xi σ 9 a1.toNatClampNeg).toNatClampNeg) 2000 ∧ (∀ x1 : Int64, x1 = (xl σ 49 (xi σ 10 (xi σ 9 a1.toNatClampNeg).toNatClampNeg).toNatClampNeg) → (vp_in a1 2001 ∧ (∀ x2 : Int32, x2 = ((xi σ 9 a1.toNatClampNeg) + 1) → ∃ m, w_Evaluator_folded_48_36 Q m a1 a2 x1 x2 σ))))))
set_option maxRecDepth 20000 in
theorem sw_Evaluator_folded_48_36 {γ : xG1} {d b0 : Nat} {Q : xO → xS → Prop} : ∀ (n : Nat) (a1 : Int32) (a2 : Int32) (a3 : Int64) (a5 : Int32) (σ : xS), w_Evaluator_folded_48_36 Q n a1 a2 a3 a5 σ → xJ (SHP, γ) Y_Evaluator_folded (d + 0) b0 36 [(0, .ref 48), (1, .int a1), (2, .int a2), (3, .long a3), (5, .int a5)] [] σ Q := by
  intro n
  induction n with
  | zero => intro a1 a2 a3 a5 σ h; exact h.elim
  | succ n ih =>
    intro a1 a2 a3 a5 σ h
    refine xJ.iload (o_Evaluator_folded 21 rfl) rfl ?_
    refine xJ.aload_n (o_Evaluator_folded 22 rfl) rfl ?_
    refine xJ.getfield (o_Evaluator_folded 23 rfl) f_Evaluator_25 rfl rfl ?_
    refine xJ.getfield (o_Evaluator_folded 24 rfl) f_Evaluator_57 rfl rfl ?_
    refine xJ.iload_n (o_Evaluator_folded 25 rfl) rfl ?_
    refine xJ.iconst (v := 1) (o_Evaluator_folded 26 rfl) (by decide) ?_
    refine xJ.iadd (o_Evaluator_folded 27 rfl) ?_
    refine xJ.iaload (o_Evaluator_folded 28 rfl) rfl h.1 ?_
    replace h := h.2
    refine xJ.icmp_ge (tgt := 179) (o_Evaluator_folded 29 rfl) (by decide) (fun z => ?_) (fun z => ?_)
    · replace h := h.1 z
      refine xJ.lload_n (o_Evaluator_folded 67 rfl) rfl ?_
      exact xJ.lreturn (o_Evaluator_folded 68 rfl) rfl h
    · replace h := h.2 z
      refine xJ.aload_n (o_Evaluator_folded 30 rfl) rfl ?_
      refine xJ.getfield (o_Evaluator_folded 31 rfl) f_Evaluator_9 rfl rfl ?_
      refine xJ.aload_n (o_Evaluator_folded 32 rfl) rfl ?_
      refine xJ.getfield (o_Evaluator_folded 33 rfl) f_Evaluator_25 rfl rfl ?_
      refine xJ.getfield (o_Evaluator_folded 34 rfl) f_Evaluator_64 rfl rfl ?_
      refine xJ.iload (o_Evaluator_folded 35 rfl) rfl ?_
      refine xJ.iaload (o_Evaluator_folded 36 rfl) rfl h.1 ?_
      replace h := h.2
      refine xJ.laload (o_Evaluator_folded 37 rfl) rfl h.1 ?_
      replace h := h.2
      refine xJ.lstore (o_Evaluator_folded 38 rfl) (by decide) ?_
      replace h := h _ rfl
      refine xJ.iload_n (o_Evaluator_folded 39 rfl) rfl ?_
      refine xJ.tsw (o_Evaluator_folded 40 rfl) (by decide) (sc_Evaluator_folded_70 (fun z => ?_) (fun z => ?_) (fun z => ?_) (fun z => ?_) (fun z => ?_))
      · replace h := h.1 z
        refine xJ.lload_n (o_Evaluator_folded 41 rfl) rfl ?_
        refine xJ.lload (o_Evaluator_folded 42 rfl) rfl ?_
        refine xJ.land (o_Evaluator_folded 43 rfl) ?_
        refine xJ.lstore_n (o_Evaluator_folded 44 rfl) (by decide) ?_
        replace h := h _ rfl
        refine xJ.goto (tgt := 173) (o_Evaluator_folded 45 rfl) (by decide) ?_
        refine xJ.iincC (w := 1) (o_Evaluator_folded 65 rfl) rfl (by decide) (by decide) ?_
        replace h := h _ rfl
        refine xJ.goto (tgt := 36) (o_Evaluator_folded 66 rfl) (by decide) ?_
        exact xJ.lvs (by exact ⟨rfl, rfl, rfl, rfl, rfl, trivial⟩) (ih _ _ _ _ _ h)
      · replace h := h.2.1 z
        refine xJ.lload_n (o_Evaluator_folded 46 rfl) rfl ?_
        refine xJ.lload (o_Evaluator_folded 47 rfl) rfl ?_
        refine xJ.lor (o_Evaluator_folded 48 rfl) ?_
        refine xJ.lstore_n (o_Evaluator_folded 49 rfl) (by decide) ?_
        replace h := h _ rfl
        refine xJ.goto (tgt := 173) (o_Evaluator_folded 50 rfl) (by decide) ?_
        refine xJ.iincC (w := 1) (o_Evaluator_folded 65 rfl) rfl (by decide) (by decide) ?_
        replace h := h _ rfl
        refine xJ.goto (tgt := 36) (o_Evaluator_folded 66 rfl) (by decide) ?_
        exact xJ.lvs (by exact ⟨rfl, rfl, rfl, rfl, rfl, trivial⟩) (ih _ _ _ _ _ h)
      · replace h := h.2.2.1 z
        refine xJ.lload_n (o_Evaluator_folded 51 rfl) rfl ?_
        refine xJ.lload (o_Evaluator_folded 52 rfl) rfl ?_
        refine xJ.lxor (o_Evaluator_folded 53 rfl) ?_
        refine xJ.lstore_n (o_Evaluator_folded 54 rfl) (by decide) ?_
        replace h := h _ rfl
        refine xJ.goto (tgt := 173) (o_Evaluator_folded 55 rfl) (by decide) ?_
        refine xJ.iincC (w := 1) (o_Evaluator_folded 65 rfl) rfl (by decide) (by decide) ?_
        replace h := h _ rfl
        refine xJ.goto (tgt := 36) (o_Evaluator_folded 66 rfl) (by decide) ?_
        exact xJ.lvs (by exact ⟨rfl, rfl, rfl, rfl, rfl, trivial⟩) (ih _ _ _ _ _ h)
      · replace h := h.2.2.2.1 z
        refine xJ.lload_n (o_Evaluator_folded 56 rfl) rfl ?_
        refine xJ.lload (o_Evaluator_folded 57 rfl) rfl ?_
        refine xJ.ladd (o_Evaluator_folded 58 rfl) ?_
        refine xJ.lstore_n (o_Evaluator_folded 59 rfl) (by decide) ?_
        replace h := h _ rfl
        refine xJ.goto (tgt := 173) (o_Evaluator_folded 60 rfl) (by decide) ?_
        refine xJ.iincC (w := 1) (o_Evaluator_folded 65 rfl) rfl (by decide) (by decide) ?_
        replace h := h _ rfl
        refine xJ.goto (tgt := 36) (o_Evaluator_folded 66 rfl) (by decide) ?_
        exact xJ.lvs (by exact ⟨rfl, rfl, rfl, rfl, rfl, trivial⟩) (ih _ _ _ _ _ h)
      · replace h := h.2.2.2.2 z
        refine xJ.lload_n (o_Evaluator_folded 61 rfl) rfl ?_
        refine xJ.lload (o_Evaluator_folded 62 rfl) rfl ?_
        refine xJ.lmul (o_Evaluator_folded 63 rfl) ?_
        refine xJ.lstore_n (o_Evaluator_folded 64 rfl) (by decide) ?_
        replace h := h _ rfl
        refine xJ.iincC (w := 1) (o_Evaluator_folded 65 rfl) rfl (by decide) (by decide) ?_
        replace h := h _ rfl
        refine xJ.goto (tgt := 36) (o_Evaluator_folded 66 rfl) (by decide) ?_
        exact xJ.lvs (by exact ⟨rfl, rfl, rfl, rfl, rfl, trivial⟩) (ih _ _ _ _ _ h)
set_option maxRecDepth 20000 in
theorem s_Evaluator_folded_48 {γ : xG1} {d : Nat} {Q : xO → xS → Prop} {σ : xS} {a1 : Int32} {a2 : Int32} (h : wp_Evaluator_folded_48 Q σ a1 a2) : xM (SHP, γ) Y_Evaluator_folded (d + 0) [.ref 48, .int a1, .int a2] σ Q := by
  refine xM.of (by decide) (Nat.le_of_ble_eq_true rfl) ?_
  refine xJ.aload_n (o_Evaluator_folded 0 rfl) rfl ?_
  refine xJ.getfield (o_Evaluator_folded 1 rfl) f_Evaluator_9 rfl rfl ?_
  refine xJ.aload_n (o_Evaluator_folded 2 rfl) rfl ?_
  refine xJ.getfield (o_Evaluator_folded 3 rfl) f_Evaluator_25 rfl rfl ?_
  refine xJ.getfield (o_Evaluator_folded 4 rfl) f_Evaluator_64 rfl rfl ?_
  refine xJ.aload_n (o_Evaluator_folded 5 rfl) rfl ?_
  refine xJ.getfield (o_Evaluator_folded 6 rfl) f_Evaluator_25 rfl rfl ?_
  refine xJ.getfield (o_Evaluator_folded 7 rfl) f_Evaluator_57 rfl rfl ?_
  refine xJ.iload_n (o_Evaluator_folded 8 rfl) rfl ?_
  refine xJ.iaload (o_Evaluator_folded 9 rfl) rfl h.1 ?_
  replace h := h.2
  refine xJ.iaload (o_Evaluator_folded 10 rfl) rfl h.1 ?_
  replace h := h.2
  refine xJ.laload (o_Evaluator_folded 11 rfl) rfl h.1 ?_
  replace h := h.2
  refine xJ.lstore_n (o_Evaluator_folded 12 rfl) (by decide) ?_
  replace h := h _ rfl
  refine xJ.aload_n (o_Evaluator_folded 13 rfl) rfl ?_
  refine xJ.getfield (o_Evaluator_folded 14 rfl) f_Evaluator_25 rfl rfl ?_
  refine xJ.getfield (o_Evaluator_folded 15 rfl) f_Evaluator_57 rfl rfl ?_
  refine xJ.iload_n (o_Evaluator_folded 16 rfl) rfl ?_
  refine xJ.iaload (o_Evaluator_folded 17 rfl) rfl h.1 ?_
  replace h := h.2
  refine xJ.iconst (v := 1) (o_Evaluator_folded 18 rfl) (by decide) ?_
  refine xJ.iadd (o_Evaluator_folded 19 rfl) ?_
  refine xJ.istore (o_Evaluator_folded 20 rfl) (by decide) ?_
  replace h := h _ rfl
  obtain ⟨m, h⟩ := h
  exact xJ.lvs (by exact ⟨rfl, rfl, rfl, rfl, rfl, trivial⟩) (sw_Evaluator_folded_48_36 m _ _ _ _ _ h)
def w_Evaluator_implication_48_42 (Q : xO → xS → Prop) : Nat → Int32 → Int64 → Int32 → xS → Prop
  | 0 => fun _ _ _ _ => False
  | n + 1 => fun a1 a2 a4 σ =>
    (vp_in a1 2001 ∧ ((a4 < (xi σ 9 a1.toNatClampNeg) → Q (.inl (some (.long a2))) σ) ∧ (¬ a4 < (xi σ 9 a1.toNatClampNeg) → (vp_in a4 80000 ∧ (vp_in (xi σ 10 a4.toNatClampNeg) 2000 ∧ (∀ x3 : Int64, x3 = (a2 ||| ((xl σ 49 (xi σ 10 a4.toNatClampNeg).toNatClampNeg) ^^^ (-1))) → (∀ x4 : Int32, x4 = a4 + (-1) → w_Evaluator_implication_48_42 Q n a1 x3 x4 σ)))))))
def wp_Evaluator_implication_48 (Q : xO → xS → Prop) (σ : xS) (a1 : Int32) : Prop :=
  (vp_in (a1 + 1) 2001 ∧ (vp_in ((xi σ 9 (a1 + 1).toNatClampNeg) - 1) 80000 ∧ (vp_in (xi σ 10 ((xi σ 9 (a1 + 1).toNatClampNeg) - 1).toNatClampNeg) 2000 ∧ (∀ x1 : Int64, x1 = (xl σ 49 (xi σ 10 ((xi σ 9 (a1 + 1).toNatClampNeg) - 1).toNatClampNeg).toNatClampNeg) → (vp_in (a1 + 1) 2001 ∧ (∀ x2 : Int32, x2 = ((xi σ 9 (a1 + 1).toNatClampNeg) - 2) → ∃ m, w_Evaluator_implication_48_42 Q m a1 x1 x2 σ))))))
set_option maxRecDepth 20000 in
theorem sw_Evaluator_implication_48_42 {γ : xG1} {d b0 : Nat} {Q : xO → xS → Prop} : ∀ (n : Nat) (a1 : Int32) (a2 : Int64) (a4 : Int32) (σ : xS), w_Evaluator_implication_48_42 Q n a1 a2 a4 σ → xJ (SHP, γ) Y_Evaluator_implication (d + 0) b0 42 [(0, .ref 48), (1, .int a1), (2, .long a2), (4, .int a4)] [] σ Q := by
  intro n
  induction n with
  | zero => intro a1 a2 a4 σ h; exact h.elim
  | succ n ih =>
    intro a1 a2 a4 σ h
    refine xJ.iload (o_Evaluator_implication 27 rfl) rfl ?_
    refine xJ.aload_n (o_Evaluator_implication 28 rfl) rfl ?_
    refine xJ.getfield (o_Evaluator_implication 29 rfl) f_Evaluator_25 rfl rfl ?_
    refine xJ.getfield (o_Evaluator_implication 30 rfl) f_Evaluator_57 rfl rfl ?_
    refine xJ.iload_n (o_Evaluator_implication 31 rfl) rfl ?_
    refine xJ.iaload (o_Evaluator_implication 32 rfl) rfl h.1 ?_
    replace h := h.2
    refine xJ.icmp_lt (tgt := 84) (o_Evaluator_implication 33 rfl) (by decide) (fun z => ?_) (fun z => ?_)
    · replace h := h.1 z
      refine xJ.lload_n (o_Evaluator_implication 49 rfl) rfl ?_
      exact xJ.lreturn (o_Evaluator_implication 50 rfl) rfl h
    · replace h := h.2 z
      refine xJ.lload_n (o_Evaluator_implication 34 rfl) rfl ?_
      refine xJ.aload_n (o_Evaluator_implication 35 rfl) rfl ?_
      refine xJ.getfield (o_Evaluator_implication 36 rfl) f_Evaluator_9 rfl rfl ?_
      refine xJ.aload_n (o_Evaluator_implication 37 rfl) rfl ?_
      refine xJ.getfield (o_Evaluator_implication 38 rfl) f_Evaluator_25 rfl rfl ?_
      refine xJ.getfield (o_Evaluator_implication 39 rfl) f_Evaluator_64 rfl rfl ?_
      refine xJ.iload (o_Evaluator_implication 40 rfl) rfl ?_
      refine xJ.iaload (o_Evaluator_implication 41 rfl) rfl h.1 ?_
      replace h := h.2
      refine xJ.laload (o_Evaluator_implication 42 rfl) rfl h.1 ?_
      replace h := h.2
      refine xJ.ldc2 (v := (-1)) (o_Evaluator_implication 43 rfl) k_Evaluator_67 ?_
      refine xJ.lxor (o_Evaluator_implication 44 rfl) ?_
      refine xJ.lor (o_Evaluator_implication 45 rfl) ?_
      refine xJ.lstore_n (o_Evaluator_implication 46 rfl) (by decide) ?_
      replace h := h _ rfl
      refine xJ.iincC (w := (-1)) (o_Evaluator_implication 47 rfl) rfl (by decide) (by decide) ?_
      replace h := h _ rfl
      refine xJ.goto (tgt := 42) (o_Evaluator_implication 48 rfl) (by decide) ?_
      exact xJ.lvs (by exact ⟨rfl, rfl, rfl, rfl, trivial⟩) (ih _ _ _ _ h)
set_option maxRecDepth 20000 in
theorem s_Evaluator_implication_48 {γ : xG1} {d : Nat} {Q : xO → xS → Prop} {σ : xS} {a1 : Int32} (h : wp_Evaluator_implication_48 Q σ a1) : xM (SHP, γ) Y_Evaluator_implication (d + 0) [.ref 48, .int a1] σ Q := by
  refine xM.of (by decide) (Nat.le_of_ble_eq_true rfl) ?_
  refine xJ.aload_n (o_Evaluator_implication 0 rfl) rfl ?_
  refine xJ.getfield (o_Evaluator_implication 1 rfl) f_Evaluator_9 rfl rfl ?_
  refine xJ.aload_n (o_Evaluator_implication 2 rfl) rfl ?_
  refine xJ.getfield (o_Evaluator_implication 3 rfl) f_Evaluator_25 rfl rfl ?_
  refine xJ.getfield (o_Evaluator_implication 4 rfl) f_Evaluator_64 rfl rfl ?_
  refine xJ.aload_n (o_Evaluator_implication 5 rfl) rfl ?_
  refine xJ.getfield (o_Evaluator_implication 6 rfl) f_Evaluator_25 rfl rfl ?_
  refine xJ.getfield (o_Evaluator_implication 7 rfl) f_Evaluator_57 rfl rfl ?_
  refine xJ.iload_n (o_Evaluator_implication 8 rfl) rfl ?_
  refine xJ.iconst (v := 1) (o_Evaluator_implication 9 rfl) (by decide) ?_
  refine xJ.iadd (o_Evaluator_implication 10 rfl) ?_
  refine xJ.iaload (o_Evaluator_implication 11 rfl) rfl h.1 ?_
  replace h := h.2
  refine xJ.iconst (v := 1) (o_Evaluator_implication 12 rfl) (by decide) ?_
  refine xJ.isub (o_Evaluator_implication 13 rfl) ?_
  refine xJ.iaload (o_Evaluator_implication 14 rfl) rfl h.1 ?_
  replace h := h.2
  refine xJ.laload (o_Evaluator_implication 15 rfl) rfl h.1 ?_
  replace h := h.2
  refine xJ.lstore_n (o_Evaluator_implication 16 rfl) (by decide) ?_
  replace h := h _ rfl
  refine xJ.aload_n (o_Evaluator_implication 17 rfl) rfl ?_
  refine xJ.getfield (o_Evaluator_implication 18 rfl) f_Evaluator_25 rfl rfl ?_
  refine xJ.getfield (o_Evaluator_implication 19 rfl) f_Evaluator_57 rfl rfl ?_
  refine xJ.iload_n (o_Evaluator_implication 20 rfl) rfl ?_
  refine xJ.iconst (v := 1) (o_Evaluator_implication 21 rfl) (by decide) ?_
  refine xJ.iadd (o_Evaluator_implication 22 rfl) ?_
  refine xJ.iaload (o_Evaluator_implication 23 rfl) rfl h.1 ?_
  replace h := h.2
  refine xJ.iconst (v := 2) (o_Evaluator_implication 24 rfl) (by decide) ?_
  refine xJ.isub (o_Evaluator_implication 25 rfl) ?_
  refine xJ.istore (o_Evaluator_implication 26 rfl) (by decide) ?_
  replace h := h _ rfl
  obtain ⟨m, h⟩ := h
  exact xJ.lvs (by exact ⟨rfl, rfl, rfl, rfl, trivial⟩) (sw_Evaluator_implication_48_42 m _ _ _ _ h)
def w_Evaluator_isAllSame_48_12 (Q : xO → xS → Prop) : Nat → Int32 → Int32 → xS → Prop
  | 0 => fun _ _ _ => False
  | n + 1 => fun a1 a2 σ =>
    (vp_in (a1 + 1) 2001 ∧ (((xi σ 9 (a1 + 1).toNatClampNeg) ≤ a2 → Q (.inl (some (.int 1))) σ) ∧ (¬ (xi σ 9 (a1 + 1).toNatClampNeg) ≤ a2 → (vp_in a2 80000 ∧ (vp_in (xi σ 10 a2.toNatClampNeg) 2000 ∧ (vp_in (a2 - 1) 80000 ∧ (vp_in (xi σ 10 (a2 - 1).toNatClampNeg) 2000 ∧ (((lg_cmp (xl σ 49 (xi σ 10 a2.toNatClampNeg).toNatClampNeg) (xl σ 49 (xi σ 10 (a2 - 1).toNatClampNeg).toNatClampNeg)) = 0 → (∀ x2 : Int32, x2 = a2 + 1 → w_Evaluator_isAllSame_48_12 Q n a1 x2 σ)) ∧ (¬ (lg_cmp (xl σ 49 (xi σ 10 a2.toNatClampNeg).toNatClampNeg) (xl σ 49 (xi σ 10 (a2 - 1).toNatClampNeg).toNatClampNeg)) = 0 → Q (.inl (some (.int 0))) σ)))))))))
def wp_Evaluator_isAllSame_48 (Q : xO → xS → Prop) (σ : xS) (a1 : Int32) : Prop :=
  (vp_in a1 2001 ∧ (∀ x1 : Int32, x1 = ((xi σ 9 a1.toNatClampNeg) + 1) → ∃ m, w_Evaluator_isAllSame_48_12 Q m a1 x1 σ))
set_option maxRecDepth 20000 in
theorem sw_Evaluator_isAllSame_48_12 {γ : xG1} {d b0 : Nat} {Q : xO → xS → Prop} : ∀ (n : Nat) (a1 : Int32) (a2 : Int32) (σ : xS), w_Evaluator_isAllSame_48_12 Q n a1 a2 σ → xJ (SHP, γ) Y_Evaluator_isAllSame (d + 0) b0 12 [(0, .ref 48), (1, .int a1), (2, .int a2)] [] σ Q := by
  intro n
  induction n with
  | zero => intro a1 a2 σ h; exact h.elim
  | succ n ih =>
    intro a1 a2 σ h
    refine xJ.iload_n (o_Evaluator_isAllSame 8 rfl) rfl ?_
    refine xJ.aload_n (o_Evaluator_isAllSame 9 rfl) rfl ?_
    refine xJ.getfield (o_Evaluator_isAllSame 10 rfl) f_Evaluator_25 rfl rfl ?_
    refine xJ.getfield (o_Evaluator_isAllSame 11 rfl) f_Evaluator_57 rfl rfl ?_
    refine xJ.iload_n (o_Evaluator_isAllSame 12 rfl) rfl ?_
    refine xJ.iconst (v := 1) (o_Evaluator_isAllSame 13 rfl) (by decide) ?_
    refine xJ.iadd (o_Evaluator_isAllSame 14 rfl) ?_
    refine xJ.iaload (o_Evaluator_isAllSame 15 rfl) rfl h.1 ?_
    replace h := h.2
    refine xJ.icmp_ge (tgt := 69) (o_Evaluator_isAllSame 16 rfl) (by decide) (fun z => ?_) (fun z => ?_)
    · replace h := h.1 z
      refine xJ.iconst (v := 1) (o_Evaluator_isAllSame 41 rfl) (by decide) ?_
      exact xJ.zreturn (o_Evaluator_isAllSame 42 rfl) rfl (Or.inr rfl) h
    · replace h := h.2 z
      refine xJ.aload_n (o_Evaluator_isAllSame 17 rfl) rfl ?_
      refine xJ.getfield (o_Evaluator_isAllSame 18 rfl) f_Evaluator_9 rfl rfl ?_
      refine xJ.aload_n (o_Evaluator_isAllSame 19 rfl) rfl ?_
      refine xJ.getfield (o_Evaluator_isAllSame 20 rfl) f_Evaluator_25 rfl rfl ?_
      refine xJ.getfield (o_Evaluator_isAllSame 21 rfl) f_Evaluator_64 rfl rfl ?_
      refine xJ.iload_n (o_Evaluator_isAllSame 22 rfl) rfl ?_
      refine xJ.iaload (o_Evaluator_isAllSame 23 rfl) rfl h.1 ?_
      replace h := h.2
      refine xJ.laload (o_Evaluator_isAllSame 24 rfl) rfl h.1 ?_
      replace h := h.2
      refine xJ.aload_n (o_Evaluator_isAllSame 25 rfl) rfl ?_
      refine xJ.getfield (o_Evaluator_isAllSame 26 rfl) f_Evaluator_9 rfl rfl ?_
      refine xJ.aload_n (o_Evaluator_isAllSame 27 rfl) rfl ?_
      refine xJ.getfield (o_Evaluator_isAllSame 28 rfl) f_Evaluator_25 rfl rfl ?_
      refine xJ.getfield (o_Evaluator_isAllSame 29 rfl) f_Evaluator_64 rfl rfl ?_
      refine xJ.iload_n (o_Evaluator_isAllSame 30 rfl) rfl ?_
      refine xJ.iconst (v := 1) (o_Evaluator_isAllSame 31 rfl) (by decide) ?_
      refine xJ.isub (o_Evaluator_isAllSame 32 rfl) ?_
      refine xJ.iaload (o_Evaluator_isAllSame 33 rfl) rfl h.1 ?_
      replace h := h.2
      refine xJ.laload (o_Evaluator_isAllSame 34 rfl) rfl h.1 ?_
      replace h := h.2
      refine xJ.lcmp (o_Evaluator_isAllSame 35 rfl) ?_
      refine xJ.if_eq (tgt := 63) (o_Evaluator_isAllSame 36 rfl) (by decide) (fun z => ?_) (fun z => ?_)
      · replace h := h.1 z
        refine xJ.iincC (w := 1) (o_Evaluator_isAllSame 39 rfl) rfl (by decide) (by decide) ?_
        replace h := h _ rfl
        refine xJ.goto (tgt := 12) (o_Evaluator_isAllSame 40 rfl) (by decide) ?_
        exact xJ.lvs (by exact ⟨rfl, rfl, rfl, trivial⟩) (ih _ _ _ h)
      · replace h := h.2 z
        refine xJ.iconst (v := 0) (o_Evaluator_isAllSame 37 rfl) (by decide) ?_
        exact xJ.zreturn (o_Evaluator_isAllSame 38 rfl) rfl (Or.inl rfl) h
set_option maxRecDepth 20000 in
theorem s_Evaluator_isAllSame_48 {γ : xG1} {d : Nat} {Q : xO → xS → Prop} {σ : xS} {a1 : Int32} (h : wp_Evaluator_isAllSame_48 Q σ a1) : xM (SHP, γ) Y_Evaluator_isAllSame (d + 0) [.ref 48, .int a1] σ Q := by
  refine xM.of (by decide) (Nat.le_of_ble_eq_true rfl) ?_
  refine xJ.aload_n (o_Evaluator_isAllSame 0 rfl) rfl ?_
  refine xJ.getfield (o_Evaluator_isAllSame 1 rfl) f_Evaluator_25 rfl rfl ?_
  refine xJ.getfield (o_Evaluator_isAllSame 2 rfl) f_Evaluator_57 rfl rfl ?_
  refine xJ.iload_n (o_Evaluator_isAllSame 3 rfl) rfl ?_
  refine xJ.iaload (o_Evaluator_isAllSame 4 rfl) rfl h.1 ?_
  replace h := h.2
  refine xJ.iconst (v := 1) (o_Evaluator_isAllSame 5 rfl) (by decide) ?_
  refine xJ.iadd (o_Evaluator_isAllSame 6 rfl) ?_
  refine xJ.istore_n (o_Evaluator_isAllSame 7 rfl) (by decide) ?_
  replace h := h _ rfl
  obtain ⟨m, h⟩ := h
  exact xJ.lvs (by exact ⟨rfl, rfl, rfl, trivial⟩) (sw_Evaluator_isAllSame_48_12 m _ _ _ h)
def w_Evaluator_isAllOther_48_37 (Q : xO → xS → Prop) (K12 : Int32 → Int32 → xS → Prop) : Nat → Int32 → Int32 → Int32 → xS → Prop
  | 0 => fun _ _ _ _ => False
  | n + 1 => fun a1 a2 a3 σ =>
    ((a2 ≤ a3 → (∀ x3 : Int32, x3 = a2 + 1 → K12 a1 x3 σ)) ∧ (¬ a2 ≤ a3 → (vp_in a2 80000 ∧ (vp_in (xi σ 10 a2.toNatClampNeg) 2000 ∧ (vp_in a3 80000 ∧ (vp_in (xi σ 10 a3.toNatClampNeg) 2000 ∧ ((¬ (lg_cmp (xl σ 49 (xi σ 10 a2.toNatClampNeg).toNatClampNeg) (xl σ 49 (xi σ 10 a3.toNatClampNeg).toNatClampNeg)) = 0 → (∀ x4 : Int32, x4 = a3 + 1 → w_Evaluator_isAllOther_48_37 Q K12 n a1 a2 x4 σ)) ∧ ((lg_cmp (xl σ 49 (xi σ 10 a2.toNatClampNeg).toNatClampNeg) (xl σ 49 (xi σ 10 a3.toNatClampNeg).toNatClampNeg)) = 0 → Q (.inl (some (.int 0))) σ))))))))
def w_Evaluator_isAllOther_48_12 (Q : xO → xS → Prop) : Nat → Int32 → Int32 → xS → Prop
  | 0 => fun _ _ _ => False
  | n + 1 => fun a1 a2 σ =>
    (vp_in (a1 + 1) 2001 ∧ (((xi σ 9 (a1 + 1).toNatClampNeg) ≤ a2 → Q (.inl (some (.int 1))) σ) ∧ (¬ (xi σ 9 (a1 + 1).toNatClampNeg) ≤ a2 → (vp_in a1 2001 ∧ (∀ x2 : Int32, x2 = (xi σ 9 a1.toNatClampNeg) → ∃ m, w_Evaluator_isAllOther_48_37 Q (w_Evaluator_isAllOther_48_12 Q n) m a1 a2 x2 σ)))))
def wp_Evaluator_isAllOther_48 (Q : xO → xS → Prop) (σ : xS) (a1 : Int32) : Prop :=
  (vp_in a1 2001 ∧ (∀ x1 : Int32, x1 = ((xi σ 9 a1.toNatClampNeg) + 1) → ∃ m, w_Evaluator_isAllOther_48_12 Q m a1 x1 σ))
set_option maxRecDepth 20000 in
theorem sw_Evaluator_isAllOther_48_37 {γ : xG1} {d b0 : Nat} {Q : xO → xS → Prop} {K12 : Int32 → Int32 → xS → Prop} (hK12 : ∀ a1 a2 σ, K12 a1 a2 σ → xJ (SHP, γ) Y_Evaluator_isAllOther (d + 0) b0 12 [(0, .ref 48), (1, .int a1), (2, .int a2)] [] σ Q) : ∀ (n : Nat) (a1 : Int32) (a2 : Int32) (a3 : Int32) (σ : xS), w_Evaluator_isAllOther_48_37 Q K12 n a1 a2 a3 σ → xJ (SHP, γ) Y_Evaluator_isAllOther (d + 0) b0 37 [(0, .ref 48), (1, .int a1), (2, .int a2), (3, .int a3)] [] σ Q := by
  intro n
  induction n with
  | zero => intro a1 a2 a3 σ h; exact h.elim
  | succ n ih =>
    intro a1 a2 a3 σ h
    refine xJ.iload_n (o_Evaluator_isAllOther 23 rfl) rfl ?_
    refine xJ.iload_n (o_Evaluator_isAllOther 24 rfl) rfl ?_
    refine xJ.icmp_ge (tgt := 82) (o_Evaluator_isAllOther 25 rfl) (by decide) (fun z => ?_) (fun z => ?_)
    · replace h := h.1 z
      refine xJ.iincC (w := 1) (o_Evaluator_isAllOther 48 rfl) rfl (by decide) (by decide) ?_
      replace h := h _ rfl
      refine xJ.goto (tgt := 12) (o_Evaluator_isAllOther 49 rfl) (by decide) ?_
      exact xJ.lvs (by exact ⟨rfl, rfl, rfl, trivial⟩) (hK12 _ _ _ h)
    · replace h := h.2 z
      refine xJ.aload_n (o_Evaluator_isAllOther 26 rfl) rfl ?_
      refine xJ.getfield (o_Evaluator_isAllOther 27 rfl) f_Evaluator_9 rfl rfl ?_
      refine xJ.aload_n (o_Evaluator_isAllOther 28 rfl) rfl ?_
      refine xJ.getfield (o_Evaluator_isAllOther 29 rfl) f_Evaluator_25 rfl rfl ?_
      refine xJ.getfield (o_Evaluator_isAllOther 30 rfl) f_Evaluator_64 rfl rfl ?_
      refine xJ.iload_n (o_Evaluator_isAllOther 31 rfl) rfl ?_
      refine xJ.iaload (o_Evaluator_isAllOther 32 rfl) rfl h.1 ?_
      replace h := h.2
      refine xJ.laload (o_Evaluator_isAllOther 33 rfl) rfl h.1 ?_
      replace h := h.2
      refine xJ.aload_n (o_Evaluator_isAllOther 34 rfl) rfl ?_
      refine xJ.getfield (o_Evaluator_isAllOther 35 rfl) f_Evaluator_9 rfl rfl ?_
      refine xJ.aload_n (o_Evaluator_isAllOther 36 rfl) rfl ?_
      refine xJ.getfield (o_Evaluator_isAllOther 37 rfl) f_Evaluator_25 rfl rfl ?_
      refine xJ.getfield (o_Evaluator_isAllOther 38 rfl) f_Evaluator_64 rfl rfl ?_
      refine xJ.iload_n (o_Evaluator_isAllOther 39 rfl) rfl ?_
      refine xJ.iaload (o_Evaluator_isAllOther 40 rfl) rfl h.1 ?_
      replace h := h.2
      refine xJ.laload (o_Evaluator_isAllOther 41 rfl) rfl h.1 ?_
      replace h := h.2
      refine xJ.lcmp (o_Evaluator_isAllOther 42 rfl) ?_
      refine xJ.if_ne (tgt := 76) (o_Evaluator_isAllOther 43 rfl) (by decide) (fun z => ?_) (fun z => ?_)
      · replace h := h.1 z
        refine xJ.iincC (w := 1) (o_Evaluator_isAllOther 46 rfl) rfl (by decide) (by decide) ?_
        replace h := h _ rfl
        refine xJ.goto (tgt := 37) (o_Evaluator_isAllOther 47 rfl) (by decide) ?_
        exact xJ.lvs (by exact ⟨rfl, rfl, rfl, rfl, trivial⟩) (ih _ _ _ _ h)
      · replace h := h.2 z
        refine xJ.iconst (v := 0) (o_Evaluator_isAllOther 44 rfl) (by decide) ?_
        exact xJ.zreturn (o_Evaluator_isAllOther 45 rfl) rfl (Or.inl rfl) h
set_option maxRecDepth 20000 in
theorem sw_Evaluator_isAllOther_48_12 {γ : xG1} {d b0 : Nat} {Q : xO → xS → Prop} : ∀ (n : Nat) (a1 : Int32) (a2 : Int32) (σ : xS), w_Evaluator_isAllOther_48_12 Q n a1 a2 σ → xJ (SHP, γ) Y_Evaluator_isAllOther (d + 0) b0 12 [(0, .ref 48), (1, .int a1), (2, .int a2)] [] σ Q := by
  intro n
  induction n with
  | zero => intro a1 a2 σ h; exact h.elim
  | succ n ih =>
    intro a1 a2 σ h
    refine xJ.iload_n (o_Evaluator_isAllOther 8 rfl) rfl ?_
    refine xJ.aload_n (o_Evaluator_isAllOther 9 rfl) rfl ?_
    refine xJ.getfield (o_Evaluator_isAllOther 10 rfl) f_Evaluator_25 rfl rfl ?_
    refine xJ.getfield (o_Evaluator_isAllOther 11 rfl) f_Evaluator_57 rfl rfl ?_
    refine xJ.iload_n (o_Evaluator_isAllOther 12 rfl) rfl ?_
    refine xJ.iconst (v := 1) (o_Evaluator_isAllOther 13 rfl) (by decide) ?_
    refine xJ.iadd (o_Evaluator_isAllOther 14 rfl) ?_
    refine xJ.iaload (o_Evaluator_isAllOther 15 rfl) rfl h.1 ?_
    replace h := h.2
    refine xJ.icmp_ge (tgt := 88) (o_Evaluator_isAllOther 16 rfl) (by decide) (fun z => ?_) (fun z => ?_)
    · replace h := h.1 z
      refine xJ.iconst (v := 1) (o_Evaluator_isAllOther 50 rfl) (by decide) ?_
      exact xJ.zreturn (o_Evaluator_isAllOther 51 rfl) rfl (Or.inr rfl) h
    · replace h := h.2 z
      refine xJ.aload_n (o_Evaluator_isAllOther 17 rfl) rfl ?_
      refine xJ.getfield (o_Evaluator_isAllOther 18 rfl) f_Evaluator_25 rfl rfl ?_
      refine xJ.getfield (o_Evaluator_isAllOther 19 rfl) f_Evaluator_57 rfl rfl ?_
      refine xJ.iload_n (o_Evaluator_isAllOther 20 rfl) rfl ?_
      refine xJ.iaload (o_Evaluator_isAllOther 21 rfl) rfl h.1 ?_
      replace h := h.2
      refine xJ.istore_n (o_Evaluator_isAllOther 22 rfl) (by decide) ?_
      replace h := h _ rfl
      obtain ⟨m, h⟩ := h
      exact xJ.lvs (by exact ⟨rfl, rfl, rfl, rfl, trivial⟩) (sw_Evaluator_isAllOther_48_37 ih m _ _ _ _ h)
set_option maxRecDepth 20000 in
theorem s_Evaluator_isAllOther_48 {γ : xG1} {d : Nat} {Q : xO → xS → Prop} {σ : xS} {a1 : Int32} (h : wp_Evaluator_isAllOther_48 Q σ a1) : xM (SHP, γ) Y_Evaluator_isAllOther (d + 0) [.ref 48, .int a1] σ Q := by
  refine xM.of (by decide) (Nat.le_of_ble_eq_true rfl) ?_
  refine xJ.aload_n (o_Evaluator_isAllOther 0 rfl) rfl ?_
  refine xJ.getfield (o_Evaluator_isAllOther 1 rfl) f_Evaluator_25 rfl rfl ?_
  refine xJ.getfield (o_Evaluator_isAllOther 2 rfl) f_Evaluator_57 rfl rfl ?_
  refine xJ.iload_n (o_Evaluator_isAllOther 3 rfl) rfl ?_
  refine xJ.iaload (o_Evaluator_isAllOther 4 rfl) rfl h.1 ?_
  replace h := h.2
  refine xJ.iconst (v := 1) (o_Evaluator_isAllOther 5 rfl) (by decide) ?_
  refine xJ.iadd (o_Evaluator_isAllOther 6 rfl) ?_
  refine xJ.istore_n (o_Evaluator_isAllOther 7 rfl) (by decide) ?_
  replace h := h _ rfl
  obtain ⟨m, h⟩ := h
  exact xJ.lvs (by exact ⟨rfl, rfl, rfl, trivial⟩) (sw_Evaluator_isAllOther_48_12 m _ _ _ h)
def w_Evaluator_concat_48_13 (Q : xO → xS → Prop) : Nat → Int32 → Int64 → Int32 → xS → Prop
  | 0 => fun _ _ _ _ => False
  | n + 1 => fun a1 a2 a4 σ =>
    (vp_in (a1 + 1) 2001 ∧ (((xi σ 9 (a1 + 1).toNatClampNeg) ≤ a4 → Q (.inl (some (.long a2))) σ) ∧ (¬ (xi σ 9 (a1 + 1).toNatClampNeg) ≤ a4 → (vp_in a4 80000 ∧ (∀ x2 : Int32, x2 = (xi σ 10 a4.toNatClampNeg) → (vp_in x2 2000 ∧ (vp_in x2 2000 ∧ (∀ x3 : Int64, x3 = ((jlshl a2 (xi σ 8 x2.toNatClampNeg)) ||| (xl σ 49 x2.toNatClampNeg)) → (∀ x4 : Int32, x4 = a4 + 1 → w_Evaluator_concat_48_13 Q n a1 x3 x4 σ)))))))))
def wp_Evaluator_concat_48 (Q : xO → xS → Prop) (σ : xS) (a1 : Int32) : Prop :=
  (vp_in a1 2001 ∧ (∀ x1 : Int32, x1 = (xi σ 9 a1.toNatClampNeg) → ∃ m, w_Evaluator_concat_48_13 Q m a1 0 x1 σ))
set_option maxRecDepth 20000 in
theorem sw_Evaluator_concat_48_13 {γ : xG1} {d b0 : Nat} {Q : xO → xS → Prop} : ∀ (n : Nat) (a1 : Int32) (a2 : Int64) (a4 : Int32) (σ : xS), w_Evaluator_concat_48_13 Q n a1 a2 a4 σ → xJ (SHP, γ) Y_Evaluator_concat (d + 0) b0 13 [(0, .ref 48), (1, .int a1), (2, .long a2), (4, .int a4)] [] σ Q := by
  intro n
  induction n with
  | zero => intro a1 a2 a4 σ h; exact h.elim
  | succ n ih =>
    intro a1 a2 a4 σ h
    refine xJ.iload (o_Evaluator_concat 8 rfl) rfl ?_
    refine xJ.aload_n (o_Evaluator_concat 9 rfl) rfl ?_
    refine xJ.getfield (o_Evaluator_concat 10 rfl) f_Evaluator_25 rfl rfl ?_
    refine xJ.getfield (o_Evaluator_concat 11 rfl) f_Evaluator_57 rfl rfl ?_
    refine xJ.iload_n (o_Evaluator_concat 12 rfl) rfl ?_
    refine xJ.iconst (v := 1) (o_Evaluator_concat 13 rfl) (by decide) ?_
    refine xJ.iadd (o_Evaluator_concat 14 rfl) ?_
    refine xJ.iaload (o_Evaluator_concat 15 rfl) rfl h.1 ?_
    replace h := h.2
    refine xJ.icmp_ge (tgt := 68) (o_Evaluator_concat 16 rfl) (by decide) (fun z => ?_) (fun z => ?_)
    · replace h := h.1 z
      refine xJ.lload_n (o_Evaluator_concat 38 rfl) rfl ?_
      exact xJ.lreturn (o_Evaluator_concat 39 rfl) rfl h
    · replace h := h.2 z
      refine xJ.aload_n (o_Evaluator_concat 17 rfl) rfl ?_
      refine xJ.getfield (o_Evaluator_concat 18 rfl) f_Evaluator_25 rfl rfl ?_
      refine xJ.getfield (o_Evaluator_concat 19 rfl) f_Evaluator_64 rfl rfl ?_
      refine xJ.iload (o_Evaluator_concat 20 rfl) rfl ?_
      refine xJ.iaload (o_Evaluator_concat 21 rfl) rfl h.1 ?_
      replace h := h.2
      refine xJ.istore (o_Evaluator_concat 22 rfl) (by decide) ?_
      replace h := h _ rfl
      refine xJ.lload_n (o_Evaluator_concat 23 rfl) rfl ?_
      refine xJ.aload_n (o_Evaluator_concat 24 rfl) rfl ?_
      refine xJ.getfield (o_Evaluator_concat 25 rfl) f_Evaluator_25 rfl rfl ?_
      refine xJ.getfield (o_Evaluator_concat 26 rfl) f_Evaluator_90 rfl rfl ?_
      refine xJ.iload (o_Evaluator_concat 27 rfl) rfl ?_
      refine xJ.iaload (o_Evaluator_concat 28 rfl) rfl h.1 ?_
      replace h := h.2
      refine xJ.lshl (o_Evaluator_concat 29 rfl) rfl ?_
      refine xJ.aload_n (o_Evaluator_concat 30 rfl) rfl ?_
      refine xJ.getfield (o_Evaluator_concat 31 rfl) f_Evaluator_9 rfl rfl ?_
      refine xJ.iload (o_Evaluator_concat 32 rfl) rfl ?_
      refine xJ.laload (o_Evaluator_concat 33 rfl) rfl h.1 ?_
      replace h := h.2
      refine xJ.lor (o_Evaluator_concat 34 rfl) ?_
      refine xJ.lstore_n (o_Evaluator_concat 35 rfl) (by decide) ?_
      replace h := h _ rfl
      refine xJ.iincC (w := 1) (o_Evaluator_concat 36 rfl) rfl (by decide) (by decide) ?_
      replace h := h _ rfl
      refine xJ.goto (tgt := 13) (o_Evaluator_concat 37 rfl) (by decide) ?_
      exact xJ.lvs (by exact ⟨rfl, rfl, rfl, rfl, trivial⟩) (ih _ _ _ _ h)
set_option maxRecDepth 20000 in
theorem s_Evaluator_concat_48 {γ : xG1} {d : Nat} {Q : xO → xS → Prop} {σ : xS} {a1 : Int32} (h : wp_Evaluator_concat_48 Q σ a1) : xM (SHP, γ) Y_Evaluator_concat (d + 0) [.ref 48, .int a1] σ Q := by
  refine xM.of (by decide) (Nat.le_of_ble_eq_true rfl) ?_
  refine xJ.lconst (v := 0) (o_Evaluator_concat 0 rfl) (by decide) ?_
  refine xJ.lstore_n (o_Evaluator_concat 1 rfl) (by decide) ?_
  refine xJ.aload_n (o_Evaluator_concat 2 rfl) rfl ?_
  refine xJ.getfield (o_Evaluator_concat 3 rfl) f_Evaluator_25 rfl rfl ?_
  refine xJ.getfield (o_Evaluator_concat 4 rfl) f_Evaluator_57 rfl rfl ?_
  refine xJ.iload_n (o_Evaluator_concat 5 rfl) rfl ?_
  refine xJ.iaload (o_Evaluator_concat 6 rfl) rfl h.1 ?_
  replace h := h.2
  refine xJ.istore (o_Evaluator_concat 7 rfl) (by decide) ?_
  replace h := h _ rfl
  obtain ⟨m, h⟩ := h
  exact xJ.lvs (by exact ⟨rfl, rfl, rfl, rfl, trivial⟩) (sw_Evaluator_concat_48_13 m _ _ _ _ h)
def wp_Evaluator_store_48 (Q : xO → xS → Prop) (σ : xS) (a1 : Int32) (a2 : Int64) (a4 : Int64) : Prop :=
  (vp_in a1 2000 ∧ (∀ x1 : Int32, x1 = (xi σ 8 a1.toNatClampNeg) → wp_Sorts_cellShift (xqi (fun r3 u2 => wp_Sorts_width (xqi (fun r5 u4 => wp_Words_mask (xql (fun r7 u6 => (∀ x8 : Int64, x8 = (jlshl r7 r3) → (vp_in a1 2000 ∧ Q (.inl (some (.long (((xl u6 49 a1.toNatClampNeg) &&& (x8 ^^^ (-1))) ||| (jlshl a4 r3))))) u6))) (fun n u => Q (.inr n) u)) u4 r5) (fun n u => Q (.inr n) u)) u2 x1) (fun n u => Q (.inr n) u)) σ x1 a2))
set_option maxRecDepth 20000 in
theorem s_Evaluator_store_48 {γ : xG1} {d : Nat} {Q : xO → xS → Prop} {σ : xS} {a1 : Int32} {a2 : Int64} {a4 : Int64} (h : wp_Evaluator_store_48 Q σ a1 a2 a4) : xM (SHP, γ) Y_Evaluator_store (d + 1) [.ref 48, .int a1, .long a2, .long a4] σ Q := by
  refine xM.of (by decide) (Nat.le_of_ble_eq_true rfl) ?_
  refine xJ.aload_n (o_Evaluator_store 0 rfl) rfl ?_
  refine xJ.getfield (o_Evaluator_store 1 rfl) f_Evaluator_25 rfl rfl ?_
  refine xJ.getfield (o_Evaluator_store 2 rfl) f_Evaluator_90 rfl rfl ?_
  refine xJ.iload_n (o_Evaluator_store 3 rfl) rfl ?_
  refine xJ.iaload (o_Evaluator_store 4 rfl) rfl h.1 ?_
  replace h := h.2
  refine xJ.istore (o_Evaluator_store 5 rfl) (by decide) ?_
  replace h := h _ rfl
  refine xJ.iload (o_Evaluator_store 6 rfl) rfl ?_
  refine xJ.lload_n (o_Evaluator_store 7 rfl) rfl ?_
  refine xJ.callS (Y' := Y_Sorts_cellShift) (o_Evaluator_store 8 rfl) m_Evaluator_116 y_Sorts_cellShift st_Sorts_cellShift (s_Sorts_cellShift h) rfl rfl (Nat.le_of_ble_eq_true rfl) (fun _ hx => by cases hx) (fun v u q => ?_) (fun n u q => q)
  obtain ⟨r, rfl, h⟩ := xqi_get q
  refine xJ.istore (o_Evaluator_store 9 rfl) (by decide) ?_
  refine xJ.iload (o_Evaluator_store 10 rfl) rfl ?_
  refine xJ.callS (Y' := Y_Sorts_width) (o_Evaluator_store 11 rfl) m_Evaluator_120 y_Sorts_width st_Sorts_width (s_Sorts_width h) rfl rfl (Nat.le_of_ble_eq_true rfl) (fun _ hx => by cases hx) (fun v u q => ?_) (fun n u q => q)
  obtain ⟨r, rfl, h⟩ := xqi_get q
  refine xJ.callS (Y' := Y_Words_mask) (o_Evaluator_store 12 rfl) m_Evaluator_124 y_Words_mask st_Words_mask (s_Words_mask h) rfl rfl (Nat.le_of_ble_eq_true rfl) (fun _ hx => by cases hx) (fun v u q => ?_) (fun n u q => q)
  obtain ⟨r, rfl, h⟩ := xql_get q
  refine xJ.iload (o_Evaluator_store 13 rfl) rfl ?_
  refine xJ.lshl (o_Evaluator_store 14 rfl) rfl ?_
  refine xJ.lstore (o_Evaluator_store 15 rfl) (by decide) ?_
  replace h := h _ rfl
  refine xJ.aload_n (o_Evaluator_store 16 rfl) rfl ?_
  refine xJ.getfield (o_Evaluator_store 17 rfl) f_Evaluator_9 rfl rfl ?_
  refine xJ.iload_n (o_Evaluator_store 18 rfl) rfl ?_
  refine xJ.laload (o_Evaluator_store 19 rfl) rfl h.1 ?_
  replace h := h.2
  refine xJ.lload (o_Evaluator_store 20 rfl) rfl ?_
  refine xJ.ldc2 (v := (-1)) (o_Evaluator_store 21 rfl) k_Evaluator_67 ?_
  refine xJ.lxor (o_Evaluator_store 22 rfl) ?_
  refine xJ.land (o_Evaluator_store 23 rfl) ?_
  refine xJ.lload (o_Evaluator_store 24 rfl) rfl ?_
  refine xJ.iload (o_Evaluator_store 25 rfl) rfl ?_
  refine xJ.lshl (o_Evaluator_store 26 rfl) rfl ?_
  refine xJ.lor (o_Evaluator_store 27 rfl) ?_
  exact xJ.lreturn (o_Evaluator_store 28 rfl) rfl h
theorem sc_Evaluator_applied_12 {x : Int32} {P : Nat → Prop} (k0 : x = 10 → P 279) (k1 : x = 11 → P 297) (k2 : x = 12 → P 305) (k3 : x = 13 ∨ x = 21 → P 176) (k4 : x = 14 ∨ x = 15 ∨ x = 16 ∨ x = 23 ∨ x = 24 ∨ x = 25 ∨ x = 26 ∨ x = 27 → P 266) (k5 : x = 17 → P 232) (k6 : x = 18 → P 197) (k7 : x = 19 → P 238) (k8 : x = 20 → P 252) (k9 : x = 22 → P 188) (k10 : x = 36 ∨ x = 37 ∨ x = 38 ∨ x = 39 ∨ x = 40 ∨ x = 41 ∨ x = 42 ∨ x = 43 → P 402) (k11 : x = 44 → P 273) (k12 : x = 45 → P 326) (k13 : x = 46 → P 363) (kd : ¬ x = 10 ∧ ¬ x = 11 ∧ ¬ x = 12 ∧ ¬ x = 13 ∧ ¬ x = 14 ∧ ¬ x = 15 ∧ ¬ x = 16 ∧ ¬ x = 17 ∧ ¬ x = 18 ∧ ¬ x = 19 ∧ ¬ x = 20 ∧ ¬ x = 21 ∧ ¬ x = 22 ∧ ¬ x = 23 ∧ ¬ x = 24 ∧ ¬ x = 25 ∧ ¬ x = 26 ∧ ¬ x = 27 ∧ ¬ x = 36 ∧ ¬ x = 37 ∧ ¬ x = 38 ∧ ¬ x = 39 ∧ ¬ x = 40 ∧ ¬ x = 41 ∧ ¬ x = 42 ∧ ¬ x = 43 ∧ ¬ x = 44 ∧ ¬ x = 45 ∧ ¬ x = 46 → P 448) : ∃ t : Nat, xdst 12 436 10 46 #[267, 285, 293, 164, 254, 254, 254, 220, 185, 226, 240, 164, 176, 254, 254, 254, 254, 254, 436, 436, 436, 436, 436, 436, 436, 436, 390, 390, 390, 390, 390, 390, 390, 390, 261, 314, 351] x = (t : Int) ∧ P t := by
  by_cases h0_0 : x = 10
  · subst h0_0; exact ⟨279, by decide, k0 (rfl)⟩
  by_cases h1_0 : x = 11
  · subst h1_0; exact ⟨297, by decide, k1 (rfl)⟩
  by_cases h2_0 : x = 12
  · subst h2_0; exact ⟨305, by decide, k2 (rfl)⟩
  by_cases h3_0 : x = 13
  · subst h3_0; exact ⟨176, by decide, k3 (Or.inl rfl)⟩
  by_cases h3_1 : x = 21
  · subst h3_1; exact ⟨176, by decide, k3 (Or.inr (rfl))⟩
  by_cases h4_0 : x = 14
  · subst h4_0; exact ⟨266, by decide, k4 (Or.inl rfl)⟩
  by_cases h4_1 : x = 15
  · subst h4_1; exact ⟨266, by decide, k4 (Or.inr (Or.inl rfl))⟩
  by_cases h4_2 : x = 16
  · subst h4_2; exact ⟨266, by decide, k4 (Or.inr (Or.inr (Or.inl rfl)))⟩
  by_cases h4_3 : x = 23
  · subst h4_3; exact ⟨266, by decide, k4 (Or.inr (Or.inr (Or.inr (Or.inl rfl))))⟩
  by_cases h4_4 : x = 24
  · subst h4_4; exact ⟨266, by decide, k4 (Or.inr (Or.inr (Or.inr (Or.inr (Or.inl rfl)))))⟩
  by_cases h4_5 : x = 25
  · subst h4_5; exact ⟨266, by decide, k4 (Or.inr (Or.inr (Or.inr (Or.inr (Or.inr (Or.inl rfl))))))⟩
  by_cases h4_6 : x = 26
  · subst h4_6; exact ⟨266, by decide, k4 (Or.inr (Or.inr (Or.inr (Or.inr (Or.inr (Or.inr (Or.inl rfl)))))))⟩
  by_cases h4_7 : x = 27
  · subst h4_7; exact ⟨266, by decide, k4 (Or.inr (Or.inr (Or.inr (Or.inr (Or.inr (Or.inr (Or.inr (rfl))))))))⟩
  by_cases h5_0 : x = 17
  · subst h5_0; exact ⟨232, by decide, k5 (rfl)⟩
  by_cases h6_0 : x = 18
  · subst h6_0; exact ⟨197, by decide, k6 (rfl)⟩
  by_cases h7_0 : x = 19
  · subst h7_0; exact ⟨238, by decide, k7 (rfl)⟩
  by_cases h8_0 : x = 20
  · subst h8_0; exact ⟨252, by decide, k8 (rfl)⟩
  by_cases h9_0 : x = 22
  · subst h9_0; exact ⟨188, by decide, k9 (rfl)⟩
  by_cases h10_0 : x = 36
  · subst h10_0; exact ⟨402, by decide, k10 (Or.inl rfl)⟩
  by_cases h10_1 : x = 37
  · subst h10_1; exact ⟨402, by decide, k10 (Or.inr (Or.inl rfl))⟩
  by_cases h10_2 : x = 38
  · subst h10_2; exact ⟨402, by decide, k10 (Or.inr (Or.inr (Or.inl rfl)))⟩
  by_cases h10_3 : x = 39
  · subst h10_3; exact ⟨402, by decide, k10 (Or.inr (Or.inr (Or.inr (Or.inl rfl))))⟩
  by_cases h10_4 : x = 40
  · subst h10_4; exact ⟨402, by decide, k10 (Or.inr (Or.inr (Or.inr (Or.inr (Or.inl rfl)))))⟩
  by_cases h10_5 : x = 41
  · subst h10_5; exact ⟨402, by decide, k10 (Or.inr (Or.inr (Or.inr (Or.inr (Or.inr (Or.inl rfl))))))⟩
  by_cases h10_6 : x = 42
  · subst h10_6; exact ⟨402, by decide, k10 (Or.inr (Or.inr (Or.inr (Or.inr (Or.inr (Or.inr (Or.inl rfl)))))))⟩
  by_cases h10_7 : x = 43
  · subst h10_7; exact ⟨402, by decide, k10 (Or.inr (Or.inr (Or.inr (Or.inr (Or.inr (Or.inr (Or.inr (rfl))))))))⟩
  by_cases h11_0 : x = 44
  · subst h11_0; exact ⟨273, by decide, k11 (rfl)⟩
  by_cases h12_0 : x = 45
  · subst h12_0; exact ⟨326, by decide, k12 (rfl)⟩
  by_cases h13_0 : x = 46
  · subst h13_0; exact ⟨363, by decide, k13 (rfl)⟩
  have nh0_0 := lv_neT h0_0 (show (10 : Int32).toInt = 10 by decide)
  have nh1_0 := lv_neT h1_0 (show (11 : Int32).toInt = 11 by decide)
  have nh2_0 := lv_neT h2_0 (show (12 : Int32).toInt = 12 by decide)
  have nh3_0 := lv_neT h3_0 (show (13 : Int32).toInt = 13 by decide)
  have nh3_1 := lv_neT h3_1 (show (21 : Int32).toInt = 21 by decide)
  have nh4_0 := lv_neT h4_0 (show (14 : Int32).toInt = 14 by decide)
  have nh4_1 := lv_neT h4_1 (show (15 : Int32).toInt = 15 by decide)
  have nh4_2 := lv_neT h4_2 (show (16 : Int32).toInt = 16 by decide)
  have nh4_3 := lv_neT h4_3 (show (23 : Int32).toInt = 23 by decide)
  have nh4_4 := lv_neT h4_4 (show (24 : Int32).toInt = 24 by decide)
  have nh4_5 := lv_neT h4_5 (show (25 : Int32).toInt = 25 by decide)
  have nh4_6 := lv_neT h4_6 (show (26 : Int32).toInt = 26 by decide)
  have nh4_7 := lv_neT h4_7 (show (27 : Int32).toInt = 27 by decide)
  have nh5_0 := lv_neT h5_0 (show (17 : Int32).toInt = 17 by decide)
  have nh6_0 := lv_neT h6_0 (show (18 : Int32).toInt = 18 by decide)
  have nh7_0 := lv_neT h7_0 (show (19 : Int32).toInt = 19 by decide)
  have nh8_0 := lv_neT h8_0 (show (20 : Int32).toInt = 20 by decide)
  have nh9_0 := lv_neT h9_0 (show (22 : Int32).toInt = 22 by decide)
  have nh10_0 := lv_neT h10_0 (show (36 : Int32).toInt = 36 by decide)
  have nh10_1 := lv_neT h10_1 (show (37 : Int32).toInt = 37 by decide)
  have nh10_2 := lv_neT h10_2 (show (38 : Int32).toInt = 38 by decide)
  have nh10_3 := lv_neT h10_3 (show (39 : Int32).toInt = 39 by decide)
  have nh10_4 := lv_neT h10_4 (show (40 : Int32).toInt = 40 by decide)
  have nh10_5 := lv_neT h10_5 (show (41 : Int32).toInt = 41 by decide)
  have nh10_6 := lv_neT h10_6 (show (42 : Int32).toInt = 42 by decide)
  have nh10_7 := lv_neT h10_7 (show (43 : Int32).toInt = 43 by decide)
  have nh11_0 := lv_neT h11_0 (show (44 : Int32).toInt = 44 by decide)
  have nh12_0 := lv_neT h12_0 (show (45 : Int32).toInt = 45 by decide)
  have nh13_0 := lv_neT h13_0 (show (46 : Int32).toInt = 46 by decide)
  refine ⟨448, ?_, kd ⟨h0_0, h1_0, h2_0, h3_0, h4_0, h4_1, h4_2, h5_0, h6_0, h7_0, h8_0, h3_1, h9_0, h4_3, h4_4, h4_5, h4_6, h4_7, h10_0, h10_1, h10_2, h10_3, h10_4, h10_5, h10_6, h10_7, h11_0, h12_0, h13_0⟩⟩
  by_cases d18 : x = 28
  · subst d18; decide
  by_cases d19 : x = 29
  · subst d19; decide
  by_cases d20 : x = 30
  · subst d20; decide
  by_cases d21 : x = 31
  · subst d21; decide
  by_cases d22 : x = 32
  · subst d22; decide
  by_cases d23 : x = 33
  · subst d23; decide
  by_cases d24 : x = 34
  · subst d24; decide
  by_cases d25 : x = 35
  · subst d25; decide
  have nd18 := lv_neT d18 (show (28 : Int32).toInt = 28 by decide)
  have nd19 := lv_neT d19 (show (29 : Int32).toInt = 29 by decide)
  have nd20 := lv_neT d20 (show (30 : Int32).toInt = 30 by decide)
  have nd21 := lv_neT d21 (show (31 : Int32).toInt = 31 by decide)
  have nd22 := lv_neT d22 (show (32 : Int32).toInt = 32 by decide)
  have nd23 := lv_neT d23 (show (33 : Int32).toInt = 33 by decide)
  have nd24 := lv_neT d24 (show (34 : Int32).toInt = 34 by decide)
  have nd25 := lv_neT d25 (show (35 : Int32).toInt = 35 by decide)
  exact xdst_out (by omega) rfl
def wp_Evaluator_applied_48 (Q : xO → xS → Prop) (σ : xS) (a1 : Int32) (a2 : Int32) (a3 : Int32) : Prop :=
  (vp_in a3 80000 ∧ (∀ x1 : Int32, x1 = (xi σ 10 a3.toNatClampNeg) → ((a2 = 10 → (vp_in x1 2000 ∧ (vp_in a1 2000 ∧ Q (.inl (some (.long (jlushr (xl σ 49 x1.toNatClampNeg) (xi σ 11 a1.toNatClampNeg))))) σ))) ∧ (a2 = 11 → (vp_in x1 2000 ∧ Q (.inl (some (.long (xl σ 49 x1.toNatClampNeg)))) σ)) ∧ (a2 = 12 → (vp_in x1 2000 ∧ (vp_in x1 2000 ∧ wp_Words_signed (xql (fun r3 u2 => Q (.inl (some (.long r3))) u2) (fun n u => Q (.inr n) u)) σ (xl σ 49 x1.toNatClampNeg) (xi σ 8 x1.toNatClampNeg)))) ∧ (a2 = 13 ∨ a2 = 21 → (vp_in x1 2000 ∧ Q (.inl (some (.long ((xl σ 49 x1.toNatClampNeg) ^^^ (-1))))) σ)) ∧ (a2 = 14 ∨ a2 = 15 ∨ a2 = 16 ∨ a2 = 23 ∨ a2 = 24 ∨ a2 = 25 ∨ a2 = 26 ∨ a2 = 27 → wp_Evaluator_folded_48 (xql (fun r5 u4 => Q (.inl (some (.long r5))) u4) (fun n u => Q (.inr n) u)) σ a1 a2) ∧ (a2 = 17 → wp_Evaluator_implication_48 (xql (fun r7 u6 => Q (.inl (some (.long r7))) u6) (fun n u => Q (.inr n) u)) σ a1) ∧ (a2 = 18 → (vp_in x1 2000 ∧ (((lg_cmp (xl σ 49 x1.toNatClampNeg) 0) = 0 → (vp_in (a3 + 2) 80000 ∧ (vp_in (xi σ 10 (a3 + 2).toNatClampNeg) 2000 ∧ Q (.inl (some (.long (xl σ 49 (xi σ 10 (a3 + 2).toNatClampNeg).toNatClampNeg)))) σ))) ∧ (¬ (lg_cmp (xl σ 49 x1.toNatClampNeg) 0) = 0 → (vp_in (a3 + 1) 80000 ∧ (vp_in (xi σ 10 (a3 + 1).toNatClampNeg) 2000 ∧ Q (.inl (some (.long (xl σ 49 (xi σ 10 (a3 + 1).toNatClampNeg).toNatClampNeg)))) σ)))))) ∧ (a2 = 19 → wp_Evaluator_isAllSame_48 (xqi (fun r9 u8 => ((r9 = 0 → Q (.inl (some (.long 0))) u8) ∧ (¬ r9 = 0 → Q (.inl (some (.long 1))) u8))) (fun n u => Q (.inr n) u)) σ a1) ∧ (a2 = 20 → wp_Evaluator_isAllOther_48 (xqi (fun r11 u10 => ((r11 = 0 → Q (.inl (some (.long 0))) u10) ∧ (¬ r11 = 0 → Q (.inl (some (.long 1))) u10))) (fun n u => Q (.inr n) u)) σ a1) ∧ (a2 = 22 → (vp_in x1 2000 ∧ Q (.inl (some (.long (-(xl σ 49 x1.toNatClampNeg))))) σ)) ∧ (a2 = 36 ∨ a2 = 37 ∨ a2 = 38 ∨ a2 = 39 ∨ a2 = 40 ∨ a2 = 41 ∨ a2 = 42 ∨ a2 = 43 → (vp_in x1 2000 ∧ (vp_in (a3 + 1) 80000 ∧ (vp_in (xi σ 10 (a3 + 1).toNatClampNeg) 2000 ∧ (vp_in x1 2000 ∧ wp_Words_compare (xqi (fun r13 u12 => ((r13 = 0 → Q (.inl (some (.long 0))) u12) ∧ (¬ r13 = 0 → Q (.inl (some (.long 1))) u12))) (fun n u => Q (.inr n) u)) σ a2 (xl σ 49 x1.toNatClampNeg) (xl σ 49 (xi σ 10 (a3 + 1).toNatClampNeg).toNatClampNeg) (xi σ 8 x1.toNatClampNeg)))))) ∧ (a2 = 44 → wp_Evaluator_concat_48 (xql (fun r15 u14 => Q (.inl (some (.long r15))) u14) (fun n u => Q (.inr n) u)) σ a1) ∧ (a2 = 45 → (vp_in x1 2000 ∧ (vp_in x1 2000 ∧ (vp_in (a3 + 1) 80000 ∧ (vp_in (xi σ 10 (a3 + 1).toNatClampNeg) 2000 ∧ wp_Sorts_cell (xql (fun r17 u16 => Q (.inl (some (.long r17))) u16) (fun n u => Q (.inr n) u)) σ (xi σ 8 x1.toNatClampNeg) (xl σ 49 x1.toNatClampNeg) (xl σ 49 (xi σ 10 (a3 + 1).toNatClampNeg).toNatClampNeg)))))) ∧ (a2 = 46 → (vp_in (a3 + 1) 80000 ∧ (vp_in (xi σ 10 (a3 + 1).toNatClampNeg) 2000 ∧ (vp_in (a3 + 2) 80000 ∧ (vp_in (xi σ 10 (a3 + 2).toNatClampNeg) 2000 ∧ wp_Evaluator_store_48 (xql (fun r19 u18 => Q (.inl (some (.long r19))) u18) (fun n u => Q (.inr n) u)) σ x1 (xl σ 49 (xi σ 10 (a3 + 1).toNatClampNeg).toNatClampNeg) (xl σ 49 (xi σ 10 (a3 + 2).toNatClampNeg).toNatClampNeg)))))) ∧ (¬ a2 = 10 ∧ ¬ a2 = 11 ∧ ¬ a2 = 12 ∧ ¬ a2 = 13 ∧ ¬ a2 = 14 ∧ ¬ a2 = 15 ∧ ¬ a2 = 16 ∧ ¬ a2 = 17 ∧ ¬ a2 = 18 ∧ ¬ a2 = 19 ∧ ¬ a2 = 20 ∧ ¬ a2 = 21 ∧ ¬ a2 = 22 ∧ ¬ a2 = 23 ∧ ¬ a2 = 24 ∧ ¬ a2 = 25 ∧ ¬ a2 = 26 ∧ ¬ a2 = 27 ∧ ¬ a2 = 36 ∧ ¬ a2 = 37 ∧ ¬ a2 = 38 ∧ ¬ a2 = 39 ∧ ¬ a2 = 40 ∧ ¬ a2 = 41 ∧ ¬ a2 = 42 ∧ ¬ a2 = 43 ∧ ¬ a2 = 44 ∧ ¬ a2 = 45 ∧ ¬ a2 = 46 → (vp_in x1 2000 ∧ (vp_in (a3 + 1) 80000 ∧ (vp_in (xi σ 10 (a3 + 1).toNatClampNeg) 2000 ∧ (vp_in x1 2000 ∧ wp_Words_two (xql (fun r21 u20 => Q (.inl (some (.long r21))) u20) (fun n u => Q (.inr n) u)) σ a2 (xl σ 49 x1.toNatClampNeg) (xl σ 49 (xi σ 10 (a3 + 1).toNatClampNeg).toNatClampNeg) (xi σ 8 x1.toNatClampNeg)))))))))
set_option maxRecDepth 20000 in
theorem s_Evaluator_applied_48 {γ : xG1} {d : Nat} {Q : xO → xS → Prop} {σ : xS} {a1 : Int32} {a2 : Int32} {a3 : Int32} (h : wp_Evaluator_applied_48 Q σ a1 a2 a3) : xM (SHP, γ) Y_Evaluator_applied (d + 2) [.ref 48, .int a1, .int a2, .int a3] σ Q := by
  refine xM.of (by decide) (Nat.le_of_ble_eq_true rfl) ?_
  refine xJ.aload_n (o_Evaluator_applied 0 rfl) rfl ?_
  refine xJ.getfield (o_Evaluator_applied 1 rfl) f_Evaluator_25 rfl rfl ?_
  refine xJ.getfield (o_Evaluator_applied 2 rfl) f_Evaluator_64 rfl rfl ?_
  refine xJ.iload_n (o_Evaluator_applied 3 rfl) rfl ?_
  refine xJ.iaload (o_Evaluator_applied 4 rfl) rfl h.1 ?_
  replace h := h.2
  refine xJ.istore (o_Evaluator_applied 5 rfl) (by decide) ?_
  replace h := h _ rfl
  refine xJ.iload_n (o_Evaluator_applied 6 rfl) rfl ?_
  refine xJ.tsw (o_Evaluator_applied 7 rfl) (by decide) (sc_Evaluator_applied_12 (fun z => ?_) (fun z => ?_) (fun z => ?_) (fun z => ?_) (fun z => ?_) (fun z => ?_) (fun z => ?_) (fun z => ?_) (fun z => ?_) (fun z => ?_) (fun z => ?_) (fun z => ?_) (fun z => ?_) (fun z => ?_) (fun z => ?_))
  · replace h := h.1 z
    refine xJ.aload_n (o_Evaluator_applied 72 rfl) rfl ?_
    refine xJ.getfield (o_Evaluator_applied 73 rfl) f_Evaluator_9 rfl rfl ?_
    refine xJ.iload (o_Evaluator_applied 74 rfl) rfl ?_
    refine xJ.laload (o_Evaluator_applied 75 rfl) rfl h.1 ?_
    replace h := h.2
    refine xJ.aload_n (o_Evaluator_applied 76 rfl) rfl ?_
    refine xJ.getfield (o_Evaluator_applied 77 rfl) f_Evaluator_25 rfl rfl ?_
    refine xJ.getfield (o_Evaluator_applied 78 rfl) f_Evaluator_87 rfl rfl ?_
    refine xJ.iload_n (o_Evaluator_applied 79 rfl) rfl ?_
    refine xJ.iaload (o_Evaluator_applied 80 rfl) rfl h.1 ?_
    replace h := h.2
    refine xJ.lushr (o_Evaluator_applied 81 rfl) rfl ?_
    exact xJ.lreturn (o_Evaluator_applied 82 rfl) rfl h
  · replace h := h.2.1 z
    refine xJ.aload_n (o_Evaluator_applied 83 rfl) rfl ?_
    refine xJ.getfield (o_Evaluator_applied 84 rfl) f_Evaluator_9 rfl rfl ?_
    refine xJ.iload (o_Evaluator_applied 85 rfl) rfl ?_
    refine xJ.laload (o_Evaluator_applied 86 rfl) rfl h.1 ?_
    replace h := h.2
    exact xJ.lreturn (o_Evaluator_applied 87 rfl) rfl h
  · replace h := h.2.2.1 z
    refine xJ.aload_n (o_Evaluator_applied 88 rfl) rfl ?_
    refine xJ.getfield (o_Evaluator_applied 89 rfl) f_Evaluator_9 rfl rfl ?_
    refine xJ.iload (o_Evaluator_applied 90 rfl) rfl ?_
    refine xJ.laload (o_Evaluator_applied 91 rfl) rfl h.1 ?_
    replace h := h.2
    refine xJ.aload_n (o_Evaluator_applied 92 rfl) rfl ?_
    refine xJ.getfield (o_Evaluator_applied 93 rfl) f_Evaluator_25 rfl rfl ?_
    refine xJ.getfield (o_Evaluator_applied 94 rfl) f_Evaluator_90 rfl rfl ?_
    refine xJ.iload (o_Evaluator_applied 95 rfl) rfl ?_
    refine xJ.iaload (o_Evaluator_applied 96 rfl) rfl h.1 ?_
    replace h := h.2
    refine xJ.callS (Y' := Y_Words_signed) (o_Evaluator_applied 97 rfl) m_Evaluator_93 y_Words_signed st_Words_signed (s_Words_signed h) rfl rfl (Nat.le_of_ble_eq_true rfl) (fun _ hx => by cases hx) (fun v u q => ?_) (fun n u q => q)
    obtain ⟨r, rfl, h⟩ := xql_get q
    exact xJ.lreturn (o_Evaluator_applied 98 rfl) rfl h
  · replace h := h.2.2.2.1 z
    refine xJ.aload_n (o_Evaluator_applied 8 rfl) rfl ?_
    refine xJ.getfield (o_Evaluator_applied 9 rfl) f_Evaluator_9 rfl rfl ?_
    refine xJ.iload (o_Evaluator_applied 10 rfl) rfl ?_
    refine xJ.laload (o_Evaluator_applied 11 rfl) rfl h.1 ?_
    replace h := h.2
    refine xJ.ldc2 (v := (-1)) (o_Evaluator_applied 12 rfl) k_Evaluator_67 ?_
    refine xJ.lxor (o_Evaluator_applied 13 rfl) ?_
    exact xJ.lreturn (o_Evaluator_applied 14 rfl) rfl h
  · replace h := h.2.2.2.2.1 z
    refine xJ.aload_n (o_Evaluator_applied 63 rfl) rfl ?_
    refine xJ.iload_n (o_Evaluator_applied 64 rfl) rfl ?_
    refine xJ.iload_n (o_Evaluator_applied 65 rfl) rfl ?_
    refine xJ.callV (Y' := Y_Evaluator_folded) (o_Evaluator_applied 66 rfl) m_Evaluator_80 y_Evaluator_folded im_Evaluator_folded se_Evaluator_folded rfl rfl (s_Evaluator_folded_48 h) rfl rfl (Nat.le_of_ble_eq_true rfl) (fun _ hx => by cases hx) (fun v u q => ?_) (fun n u q => q)
    obtain ⟨r, rfl, h⟩ := xql_get q
    exact xJ.lreturn (o_Evaluator_applied 67 rfl) rfl h
  · replace h := h.2.2.2.2.2.1 z
    refine xJ.aload_n (o_Evaluator_applied 43 rfl) rfl ?_
    refine xJ.iload_n (o_Evaluator_applied 44 rfl) rfl ?_
    refine xJ.callV (Y' := Y_Evaluator_implication) (o_Evaluator_applied 45 rfl) m_Evaluator_69 y_Evaluator_implication im_Evaluator_implication se_Evaluator_implication rfl rfl (s_Evaluator_implication_48 h) rfl rfl (Nat.le_of_ble_eq_true rfl) (fun _ hx => by cases hx) (fun v u q => ?_) (fun n u q => q)
    obtain ⟨r, rfl, h⟩ := xql_get q
    exact xJ.lreturn (o_Evaluator_applied 46 rfl) rfl h
  · replace h := h.2.2.2.2.2.2.1 z
    refine xJ.aload_n (o_Evaluator_applied 21 rfl) rfl ?_
    refine xJ.getfield (o_Evaluator_applied 22 rfl) f_Evaluator_9 rfl rfl ?_
    refine xJ.aload_n (o_Evaluator_applied 23 rfl) rfl ?_
    refine xJ.getfield (o_Evaluator_applied 24 rfl) f_Evaluator_25 rfl rfl ?_
    refine xJ.getfield (o_Evaluator_applied 25 rfl) f_Evaluator_64 rfl rfl ?_
    refine xJ.aload_n (o_Evaluator_applied 26 rfl) rfl ?_
    refine xJ.getfield (o_Evaluator_applied 27 rfl) f_Evaluator_9 rfl rfl ?_
    refine xJ.iload (o_Evaluator_applied 28 rfl) rfl ?_
    refine xJ.laload (o_Evaluator_applied 29 rfl) rfl h.1 ?_
    replace h := h.2
    refine xJ.lconst (v := 0) (o_Evaluator_applied 30 rfl) (by decide) ?_
    refine xJ.lcmp (o_Evaluator_applied 31 rfl) ?_
    refine xJ.if_eq (tgt := 226) (o_Evaluator_applied 32 rfl) (by decide) (fun z => ?_) (fun z => ?_)
    · replace h := h.1 z
      refine xJ.iload_n (o_Evaluator_applied 37 rfl) rfl ?_
      refine xJ.iconst (v := 2) (o_Evaluator_applied 38 rfl) (by decide) ?_
      refine xJ.iadd (o_Evaluator_applied 39 rfl) ?_
      refine xJ.iaload (o_Evaluator_applied 40 rfl) rfl h.1 ?_
      replace h := h.2
      refine xJ.laload (o_Evaluator_applied 41 rfl) rfl h.1 ?_
      replace h := h.2
      exact xJ.lreturn (o_Evaluator_applied 42 rfl) rfl h
    · replace h := h.2 z
      refine xJ.iload_n (o_Evaluator_applied 33 rfl) rfl ?_
      refine xJ.iconst (v := 1) (o_Evaluator_applied 34 rfl) (by decide) ?_
      refine xJ.iadd (o_Evaluator_applied 35 rfl) ?_
      refine xJ.goto (tgt := 229) (o_Evaluator_applied 36 rfl) (by decide) ?_
      refine xJ.iaload (o_Evaluator_applied 40 rfl) rfl h.1 ?_
      replace h := h.2
      refine xJ.laload (o_Evaluator_applied 41 rfl) rfl h.1 ?_
      replace h := h.2
      exact xJ.lreturn (o_Evaluator_applied 42 rfl) rfl h
  · replace h := h.2.2.2.2.2.2.2.1 z
    refine xJ.aload_n (o_Evaluator_applied 47 rfl) rfl ?_
    refine xJ.iload_n (o_Evaluator_applied 48 rfl) rfl ?_
    refine xJ.callV (Y' := Y_Evaluator_isAllSame) (o_Evaluator_applied 49 rfl) m_Evaluator_73 y_Evaluator_isAllSame im_Evaluator_isAllSame se_Evaluator_isAllSame rfl rfl (s_Evaluator_isAllSame_48 h) rfl rfl (Nat.le_of_ble_eq_true rfl) (fun _ hx => by cases hx) (fun v u q => ?_) (fun n u q => q)
    obtain ⟨r, rfl, h⟩ := xqi_get q
    refine xJ.if_eq (tgt := 250) (o_Evaluator_applied 50 rfl) (by decide) (fun z => ?_) (fun z => ?_)
    · replace h := h.1 z
      refine xJ.lconst (v := 0) (o_Evaluator_applied 53 rfl) (by decide) ?_
      exact xJ.lreturn (o_Evaluator_applied 54 rfl) rfl h
    · replace h := h.2 z
      refine xJ.lconst (v := 1) (o_Evaluator_applied 51 rfl) (by decide) ?_
      refine xJ.goto (tgt := 251) (o_Evaluator_applied 52 rfl) (by decide) ?_
      exact xJ.lreturn (o_Evaluator_applied 54 rfl) rfl h
  · replace h := h.2.2.2.2.2.2.2.2.1 z
    refine xJ.aload_n (o_Evaluator_applied 55 rfl) rfl ?_
    refine xJ.iload_n (o_Evaluator_applied 56 rfl) rfl ?_
    refine xJ.callV (Y' := Y_Evaluator_isAllOther) (o_Evaluator_applied 57 rfl) m_Evaluator_77 y_Evaluator_isAllOther im_Evaluator_isAllOther se_Evaluator_isAllOther rfl rfl (s_Evaluator_isAllOther_48 h) rfl rfl (Nat.le_of_ble_eq_true rfl) (fun _ hx => by cases hx) (fun v u q => ?_) (fun n u q => q)
    obtain ⟨r, rfl, h⟩ := xqi_get q
    refine xJ.if_eq (tgt := 264) (o_Evaluator_applied 58 rfl) (by decide) (fun z => ?_) (fun z => ?_)
    · replace h := h.1 z
      refine xJ.lconst (v := 0) (o_Evaluator_applied 61 rfl) (by decide) ?_
      exact xJ.lreturn (o_Evaluator_applied 62 rfl) rfl h
    · replace h := h.2 z
      refine xJ.lconst (v := 1) (o_Evaluator_applied 59 rfl) (by decide) ?_
      refine xJ.goto (tgt := 265) (o_Evaluator_applied 60 rfl) (by decide) ?_
      exact xJ.lreturn (o_Evaluator_applied 62 rfl) rfl h
  · replace h := h.2.2.2.2.2.2.2.2.2.1 z
    refine xJ.aload_n (o_Evaluator_applied 15 rfl) rfl ?_
    refine xJ.getfield (o_Evaluator_applied 16 rfl) f_Evaluator_9 rfl rfl ?_
    refine xJ.iload (o_Evaluator_applied 17 rfl) rfl ?_
    refine xJ.laload (o_Evaluator_applied 18 rfl) rfl h.1 ?_
    replace h := h.2
    refine xJ.lneg (o_Evaluator_applied 19 rfl) ?_
    exact xJ.lreturn (o_Evaluator_applied 20 rfl) rfl h
  · replace h := h.2.2.2.2.2.2.2.2.2.2.1 z
    refine xJ.iload_n (o_Evaluator_applied 144 rfl) rfl ?_
    refine xJ.aload_n (o_Evaluator_applied 145 rfl) rfl ?_
    refine xJ.getfield (o_Evaluator_applied 146 rfl) f_Evaluator_9 rfl rfl ?_
    refine xJ.iload (o_Evaluator_applied 147 rfl) rfl ?_
    refine xJ.laload (o_Evaluator_applied 148 rfl) rfl h.1 ?_
    replace h := h.2
    refine xJ.aload_n (o_Evaluator_applied 149 rfl) rfl ?_
    refine xJ.getfield (o_Evaluator_applied 150 rfl) f_Evaluator_9 rfl rfl ?_
    refine xJ.aload_n (o_Evaluator_applied 151 rfl) rfl ?_
    refine xJ.getfield (o_Evaluator_applied 152 rfl) f_Evaluator_25 rfl rfl ?_
    refine xJ.getfield (o_Evaluator_applied 153 rfl) f_Evaluator_64 rfl rfl ?_
    refine xJ.iload_n (o_Evaluator_applied 154 rfl) rfl ?_
    refine xJ.iconst (v := 1) (o_Evaluator_applied 155 rfl) (by decide) ?_
    refine xJ.iadd (o_Evaluator_applied 156 rfl) ?_
    refine xJ.iaload (o_Evaluator_applied 157 rfl) rfl h.1 ?_
    replace h := h.2
    refine xJ.laload (o_Evaluator_applied 158 rfl) rfl h.1 ?_
    replace h := h.2
    refine xJ.aload_n (o_Evaluator_applied 159 rfl) rfl ?_
    refine xJ.getfield (o_Evaluator_applied 160 rfl) f_Evaluator_25 rfl rfl ?_
    refine xJ.getfield (o_Evaluator_applied 161 rfl) f_Evaluator_90 rfl rfl ?_
    refine xJ.iload (o_Evaluator_applied 162 rfl) rfl ?_
    refine xJ.iaload (o_Evaluator_applied 163 rfl) rfl h.1 ?_
    replace h := h.2
    refine xJ.callS (Y' := Y_Words_compare) (o_Evaluator_applied 164 rfl) m_Evaluator_108 y_Words_compare st_Words_compare (s_Words_compare h) rfl rfl (Nat.le_of_ble_eq_true rfl) (fun _ hx => by cases hx) (fun v u q => ?_) (fun n u q => q)
    obtain ⟨r, rfl, h⟩ := xqi_get q
    refine xJ.if_eq (tgt := 446) (o_Evaluator_applied 165 rfl) (by decide) (fun z => ?_) (fun z => ?_)
    · replace h := h.1 z
      refine xJ.lconst (v := 0) (o_Evaluator_applied 168 rfl) (by decide) ?_
      exact xJ.lreturn (o_Evaluator_applied 169 rfl) rfl h
    · replace h := h.2 z
      refine xJ.lconst (v := 1) (o_Evaluator_applied 166 rfl) (by decide) ?_
      refine xJ.goto (tgt := 447) (o_Evaluator_applied 167 rfl) (by decide) ?_
      exact xJ.lreturn (o_Evaluator_applied 169 rfl) rfl h
  · replace h := h.2.2.2.2.2.2.2.2.2.2.2.1 z
    refine xJ.aload_n (o_Evaluator_applied 68 rfl) rfl ?_
    refine xJ.iload_n (o_Evaluator_applied 69 rfl) rfl ?_
    refine xJ.callV (Y' := Y_Evaluator_concat) (o_Evaluator_applied 70 rfl) m_Evaluator_84 y_Evaluator_concat im_Evaluator_concat se_Evaluator_concat rfl rfl (s_Evaluator_concat_48 h) rfl rfl (Nat.le_of_ble_eq_true rfl) (fun _ hx => by cases hx) (fun v u q => ?_) (fun n u q => q)
    obtain ⟨r, rfl, h⟩ := xql_get q
    exact xJ.lreturn (o_Evaluator_applied 71 rfl) rfl h
  · replace h := h.2.2.2.2.2.2.2.2.2.2.2.2.1 z
    refine xJ.aload_n (o_Evaluator_applied 99 rfl) rfl ?_
    refine xJ.getfield (o_Evaluator_applied 100 rfl) f_Evaluator_25 rfl rfl ?_
    refine xJ.getfield (o_Evaluator_applied 101 rfl) f_Evaluator_90 rfl rfl ?_
    refine xJ.iload (o_Evaluator_applied 102 rfl) rfl ?_
    refine xJ.iaload (o_Evaluator_applied 103 rfl) rfl h.1 ?_
    replace h := h.2
    refine xJ.aload_n (o_Evaluator_applied 104 rfl) rfl ?_
    refine xJ.getfield (o_Evaluator_applied 105 rfl) f_Evaluator_9 rfl rfl ?_
    refine xJ.iload (o_Evaluator_applied 106 rfl) rfl ?_
    refine xJ.laload (o_Evaluator_applied 107 rfl) rfl h.1 ?_
    replace h := h.2
    refine xJ.aload_n (o_Evaluator_applied 108 rfl) rfl ?_
    refine xJ.getfield (o_Evaluator_applied 109 rfl) f_Evaluator_9 rfl rfl ?_
    refine xJ.aload_n (o_Evaluator_applied 110 rfl) rfl ?_
    refine xJ.getfield (o_Evaluator_applied 111 rfl) f_Evaluator_25 rfl rfl ?_
    refine xJ.getfield (o_Evaluator_applied 112 rfl) f_Evaluator_64 rfl rfl ?_
    refine xJ.iload_n (o_Evaluator_applied 113 rfl) rfl ?_
    refine xJ.iconst (v := 1) (o_Evaluator_applied 114 rfl) (by decide) ?_
    refine xJ.iadd (o_Evaluator_applied 115 rfl) ?_
    refine xJ.iaload (o_Evaluator_applied 116 rfl) rfl h.1 ?_
    replace h := h.2
    refine xJ.laload (o_Evaluator_applied 117 rfl) rfl h.1 ?_
    replace h := h.2
    refine xJ.callS (Y' := Y_Sorts_cell) (o_Evaluator_applied 118 rfl) m_Evaluator_99 y_Sorts_cell st_Sorts_cell (s_Sorts_cell h) rfl rfl (Nat.le_of_ble_eq_true rfl) (fun _ hx => by cases hx) (fun v u q => ?_) (fun n u q => q)
    obtain ⟨r, rfl, h⟩ := xql_get q
    exact xJ.lreturn (o_Evaluator_applied 119 rfl) rfl h
  · replace h := h.2.2.2.2.2.2.2.2.2.2.2.2.2.1 z
    refine xJ.aload_n (o_Evaluator_applied 120 rfl) rfl ?_
    refine xJ.iload (o_Evaluator_applied 121 rfl) rfl ?_
    refine xJ.aload_n (o_Evaluator_applied 122 rfl) rfl ?_
    refine xJ.getfield (o_Evaluator_applied 123 rfl) f_Evaluator_9 rfl rfl ?_
    refine xJ.aload_n (o_Evaluator_applied 124 rfl) rfl ?_
    refine xJ.getfield (o_Evaluator_applied 125 rfl) f_Evaluator_25 rfl rfl ?_
    refine xJ.getfield (o_Evaluator_applied 126 rfl) f_Evaluator_64 rfl rfl ?_
    refine xJ.iload_n (o_Evaluator_applied 127 rfl) rfl ?_
    refine xJ.iconst (v := 1) (o_Evaluator_applied 128 rfl) (by decide) ?_
    refine xJ.iadd (o_Evaluator_applied 129 rfl) ?_
    refine xJ.iaload (o_Evaluator_applied 130 rfl) rfl h.1 ?_
    replace h := h.2
    refine xJ.laload (o_Evaluator_applied 131 rfl) rfl h.1 ?_
    replace h := h.2
    refine xJ.aload_n (o_Evaluator_applied 132 rfl) rfl ?_
    refine xJ.getfield (o_Evaluator_applied 133 rfl) f_Evaluator_9 rfl rfl ?_
    refine xJ.aload_n (o_Evaluator_applied 134 rfl) rfl ?_
    refine xJ.getfield (o_Evaluator_applied 135 rfl) f_Evaluator_25 rfl rfl ?_
    refine xJ.getfield (o_Evaluator_applied 136 rfl) f_Evaluator_64 rfl rfl ?_
    refine xJ.iload_n (o_Evaluator_applied 137 rfl) rfl ?_
    refine xJ.iconst (v := 2) (o_Evaluator_applied 138 rfl) (by decide) ?_
    refine xJ.iadd (o_Evaluator_applied 139 rfl) ?_
    refine xJ.iaload (o_Evaluator_applied 140 rfl) rfl h.1 ?_
    replace h := h.2
    refine xJ.laload (o_Evaluator_applied 141 rfl) rfl h.1 ?_
    replace h := h.2
    refine xJ.callV (Y' := Y_Evaluator_store) (o_Evaluator_applied 142 rfl) m_Evaluator_105 y_Evaluator_store im_Evaluator_store se_Evaluator_store rfl rfl (s_Evaluator_store_48 h) rfl rfl (Nat.le_of_ble_eq_true rfl) (fun _ hx => by cases hx) (fun v u q => ?_) (fun n u q => q)
    obtain ⟨r, rfl, h⟩ := xql_get q
    exact xJ.lreturn (o_Evaluator_applied 143 rfl) rfl h
  · replace h := h.2.2.2.2.2.2.2.2.2.2.2.2.2.2 z
    refine xJ.iload_n (o_Evaluator_applied 170 rfl) rfl ?_
    refine xJ.aload_n (o_Evaluator_applied 171 rfl) rfl ?_
    refine xJ.getfield (o_Evaluator_applied 172 rfl) f_Evaluator_9 rfl rfl ?_
    refine xJ.iload (o_Evaluator_applied 173 rfl) rfl ?_
    refine xJ.laload (o_Evaluator_applied 174 rfl) rfl h.1 ?_
    replace h := h.2
    refine xJ.aload_n (o_Evaluator_applied 175 rfl) rfl ?_
    refine xJ.getfield (o_Evaluator_applied 176 rfl) f_Evaluator_9 rfl rfl ?_
    refine xJ.aload_n (o_Evaluator_applied 177 rfl) rfl ?_
    refine xJ.getfield (o_Evaluator_applied 178 rfl) f_Evaluator_25 rfl rfl ?_
    refine xJ.getfield (o_Evaluator_applied 179 rfl) f_Evaluator_64 rfl rfl ?_
    refine xJ.iload_n (o_Evaluator_applied 180 rfl) rfl ?_
    refine xJ.iconst (v := 1) (o_Evaluator_applied 181 rfl) (by decide) ?_
    refine xJ.iadd (o_Evaluator_applied 182 rfl) ?_
    refine xJ.iaload (o_Evaluator_applied 183 rfl) rfl h.1 ?_
    replace h := h.2
    refine xJ.laload (o_Evaluator_applied 184 rfl) rfl h.1 ?_
    replace h := h.2
    refine xJ.aload_n (o_Evaluator_applied 185 rfl) rfl ?_
    refine xJ.getfield (o_Evaluator_applied 186 rfl) f_Evaluator_25 rfl rfl ?_
    refine xJ.getfield (o_Evaluator_applied 187 rfl) f_Evaluator_90 rfl rfl ?_
    refine xJ.iload (o_Evaluator_applied 188 rfl) rfl ?_
    refine xJ.iaload (o_Evaluator_applied 189 rfl) rfl h.1 ?_
    replace h := h.2
    refine xJ.callS (Y' := Y_Words_two) (o_Evaluator_applied 190 rfl) m_Evaluator_112 y_Words_two st_Words_two (s_Words_two h) rfl rfl (Nat.le_of_ble_eq_true rfl) (fun _ hx => by cases hx) (fun v u q => ?_) (fun n u q => q)
    obtain ⟨r, rfl, h⟩ := xql_get q
    exact xJ.lreturn (o_Evaluator_applied 191 rfl) rfl h
def wp_Evaluator_workOut_48 (Q : xO → xS → Prop) (σ : xS) (a1 : Int32) : Prop :=
  (vp_in a1 2000 ∧ (∀ x1 : Int32, x1 = (xi σ 7 a1.toNatClampNeg) → ((¬ x1 = 48 → ((x1 = 47 → Q (.inl none) σ) ∧ (¬ x1 = 47 → (vp_in a1 2001 ∧ wp_Evaluator_applied_48 (xql (fun r3 u2 => (vp_in a1 2000 ∧ (vp_in a1 2000 ∧ (∀ s4 : xS, s4 = xpl u2 49 a1.toNatClampNeg (r3 &&& (xl u2 13 a1.toNatClampNeg)) → Q (.inl none) s4)))) (fun n u => Q (.inr n) u)) σ a1 x1 (xi σ 9 a1.toNatClampNeg))))) ∧ (x1 = 48 → (vp_in a1 2000 ∧ (vp_in a1 2000 ∧ (∀ s5 : xS, s5 = xpl σ 49 a1.toNatClampNeg (xl σ 12 a1.toNatClampNeg) → Q (.inl none) s5)))))))
set_option maxRecDepth 20000 in
theorem s_Evaluator_workOut_48 {γ : xG1} {d : Nat} {Q : xO → xS → Prop} {σ : xS} {a1 : Int32} (h : wp_Evaluator_workOut_48 Q σ a1) : xM (SHP, γ) Y_Evaluator_workOut (d + 3) [.ref 48, .int a1] σ Q := by
  refine xM.of (by decide) (Nat.le_of_ble_eq_true rfl) ?_
  refine xJ.aload_n (o_Evaluator_workOut 0 rfl) rfl ?_
  refine xJ.getfield (o_Evaluator_workOut 1 rfl) f_Evaluator_25 rfl rfl ?_
  refine xJ.getfield (o_Evaluator_workOut 2 rfl) f_Evaluator_51 rfl rfl ?_
  refine xJ.iload_n (o_Evaluator_workOut 3 rfl) rfl ?_
  refine xJ.iaload (o_Evaluator_workOut 4 rfl) rfl h.1 ?_
  replace h := h.2
  refine xJ.istore_n (o_Evaluator_workOut 5 rfl) (by decide) ?_
  replace h := h _ rfl
  refine xJ.iload_n (o_Evaluator_workOut 6 rfl) rfl ?_
  refine xJ.bipush (v := 48) (o_Evaluator_workOut 7 rfl) (by decide) ?_
  refine xJ.icmp_ne (tgt := 34) (o_Evaluator_workOut 8 rfl) (by decide) (fun z => ?_) (fun z => ?_)
  · replace h := h.1 z
    refine xJ.iload_n (o_Evaluator_workOut 19 rfl) rfl ?_
    refine xJ.bipush (v := 47) (o_Evaluator_workOut 20 rfl) (by decide) ?_
    refine xJ.icmp_eq (tgt := 71) (o_Evaluator_workOut 21 rfl) (by decide) (fun z => ?_) (fun z => ?_)
    · replace h := h.1 z
      exact xJ.return_ (o_Evaluator_workOut 41 rfl) rfl h
    · replace h := h.2 z
      refine xJ.aload_n (o_Evaluator_workOut 22 rfl) rfl ?_
      refine xJ.getfield (o_Evaluator_workOut 23 rfl) f_Evaluator_9 rfl rfl ?_
      refine xJ.iload_n (o_Evaluator_workOut 24 rfl) rfl ?_
      refine xJ.aload_n (o_Evaluator_workOut 25 rfl) rfl ?_
      refine xJ.iload_n (o_Evaluator_workOut 26 rfl) rfl ?_
      refine xJ.iload_n (o_Evaluator_workOut 27 rfl) rfl ?_
      refine xJ.aload_n (o_Evaluator_workOut 28 rfl) rfl ?_
      refine xJ.getfield (o_Evaluator_workOut 29 rfl) f_Evaluator_25 rfl rfl ?_
      refine xJ.getfield (o_Evaluator_workOut 30 rfl) f_Evaluator_57 rfl rfl ?_
      refine xJ.iload_n (o_Evaluator_workOut 31 rfl) rfl ?_
      refine xJ.iaload (o_Evaluator_workOut 32 rfl) rfl h.1 ?_
      replace h := h.2
      refine xJ.callV (Y' := Y_Evaluator_applied) (o_Evaluator_workOut 33 rfl) m_Evaluator_60 y_Evaluator_applied im_Evaluator_applied se_Evaluator_applied rfl rfl (s_Evaluator_applied_48 h) rfl rfl (Nat.le_of_ble_eq_true rfl) (fun _ hx => by cases hx) (fun v u q => ?_) (fun n u q => q)
      obtain ⟨r, rfl, h⟩ := xql_get q
      refine xJ.aload_n (o_Evaluator_workOut 34 rfl) rfl ?_
      refine xJ.getfield (o_Evaluator_workOut 35 rfl) f_Evaluator_25 rfl rfl ?_
      refine xJ.getfield (o_Evaluator_workOut 36 rfl) f_Evaluator_46 rfl rfl ?_
      refine xJ.iload_n (o_Evaluator_workOut 37 rfl) rfl ?_
      refine xJ.laload (o_Evaluator_workOut 38 rfl) rfl h.1 ?_
      replace h := h.2
      refine xJ.land (o_Evaluator_workOut 39 rfl) ?_
      refine xJ.lastore (o_Evaluator_workOut 40 rfl) rfl h.1 ?_
      replace h := h.2
      replace h := h _ rfl
      exact xJ.return_ (o_Evaluator_workOut 41 rfl) rfl h
  · replace h := h.2 z
    refine xJ.aload_n (o_Evaluator_workOut 9 rfl) rfl ?_
    refine xJ.getfield (o_Evaluator_workOut 10 rfl) f_Evaluator_9 rfl rfl ?_
    refine xJ.iload_n (o_Evaluator_workOut 11 rfl) rfl ?_
    refine xJ.aload_n (o_Evaluator_workOut 12 rfl) rfl ?_
    refine xJ.getfield (o_Evaluator_workOut 13 rfl) f_Evaluator_25 rfl rfl ?_
    refine xJ.getfield (o_Evaluator_workOut 14 rfl) f_Evaluator_54 rfl rfl ?_
    refine xJ.iload_n (o_Evaluator_workOut 15 rfl) rfl ?_
    refine xJ.laload (o_Evaluator_workOut 16 rfl) rfl h.1 ?_
    replace h := h.2
    refine xJ.lastore (o_Evaluator_workOut 17 rfl) rfl h.1 ?_
    replace h := h.2
    replace h := h _ rfl
    refine xJ.goto (tgt := 71) (o_Evaluator_workOut 18 rfl) (by decide) ?_
    exact xJ.return_ (o_Evaluator_workOut 41 rfl) rfl h
def w_Evaluator_takeThings_48_2 (Q : xO → xS → Prop) : Nat → Int32 → Int32 → Int32 → xS → Prop
  | 0 => fun _ _ _ _ => False
  | n + 1 => fun a1 a2 a3 σ =>
    (((xi σ 5 8) ≤ a3 → Q (.inl none) σ) ∧ (¬ (xi σ 5 8) ≤ a3 → (vp_in a3 500 ∧ (∀ x1 : Int32, x1 = (xi σ 19 a3.toNatClampNeg) → wp_Book_shift (xqi (fun r3 u2 => (vp_in x1 2000 ∧ (vp_in x1 2000 ∧ (∀ s4 : xS, s4 = xpl u2 49 x1.toNatClampNeg (((jiushr a1 r3).toInt64) &&& (xl u2 13 x1.toNatClampNeg)) → (∀ x5 : Int32, x5 = a3 + 1 → w_Evaluator_takeThings_48_2 Q n a1 a2 x5 s4))))) (fun n u => Q (.inr n) u)) σ a3 a2))))
def wp_Evaluator_takeThings_48 (Q : xO → xS → Prop) (σ : xS) (a1 : Int32) (a2 : Int32) : Prop :=
  ∃ m, w_Evaluator_takeThings_48_2 Q m a1 a2 0 σ
set_option maxRecDepth 20000 in
theorem sw_Evaluator_takeThings_48_2 {γ : xG1} {d b0 : Nat} {Q : xO → xS → Prop} : ∀ (n : Nat) (a1 : Int32) (a2 : Int32) (a3 : Int32) (σ : xS), w_Evaluator_takeThings_48_2 Q n a1 a2 a3 σ → xJ (SHP, γ) Y_Evaluator_takeThings (d + 1) b0 2 [(0, .ref 48), (1, .int a1), (2, .int a2), (3, .int a3)] [] σ Q := by
  intro n
  induction n with
  | zero => intro a1 a2 a3 σ h; exact h.elim
  | succ n ih =>
    intro a1 a2 a3 σ h
    refine xJ.iload_n (o_Evaluator_takeThings 2 rfl) rfl ?_
    refine xJ.aload_n (o_Evaluator_takeThings 3 rfl) rfl ?_
    refine xJ.getfield (o_Evaluator_takeThings 4 rfl) f_Evaluator_15 rfl rfl ?_
    refine xJ.getfield (o_Evaluator_takeThings 5 rfl) f_Evaluator_34 rfl rfl ?_
    refine xJ.icmp_ge (tgt := 60) (o_Evaluator_takeThings 6 rfl) (by decide) (fun z => ?_) (fun z => ?_)
    · replace h := h.1 z
      exact xJ.return_ (o_Evaluator_takeThings 33 rfl) rfl h
    · replace h := h.2 z
      refine xJ.aload_n (o_Evaluator_takeThings 7 rfl) rfl ?_
      refine xJ.getfield (o_Evaluator_takeThings 8 rfl) f_Evaluator_15 rfl rfl ?_
      refine xJ.getfield (o_Evaluator_takeThings 9 rfl) f_Evaluator_38 rfl rfl ?_
      refine xJ.iload_n (o_Evaluator_takeThings 10 rfl) rfl ?_
      refine xJ.iaload (o_Evaluator_takeThings 11 rfl) rfl h.1 ?_
      replace h := h.2
      refine xJ.istore (o_Evaluator_takeThings 12 rfl) (by decide) ?_
      replace h := h _ rfl
      refine xJ.aload_n (o_Evaluator_takeThings 13 rfl) rfl ?_
      refine xJ.getfield (o_Evaluator_takeThings 14 rfl) f_Evaluator_9 rfl rfl ?_
      refine xJ.iload (o_Evaluator_takeThings 15 rfl) rfl ?_
      refine xJ.iload_n (o_Evaluator_takeThings 16 rfl) rfl ?_
      refine xJ.aload_n (o_Evaluator_takeThings 17 rfl) rfl ?_
      refine xJ.getfield (o_Evaluator_takeThings 18 rfl) f_Evaluator_15 rfl rfl ?_
      refine xJ.iload_n (o_Evaluator_takeThings 19 rfl) rfl ?_
      refine xJ.iload_n (o_Evaluator_takeThings 20 rfl) rfl ?_
      refine xJ.callV (Y' := Y_Book_shift) (o_Evaluator_takeThings 21 rfl) m_Evaluator_42 y_Book_shift im_Book_shift se_Book_shift rfl rfl (s_Book_shift h) rfl rfl (Nat.le_of_ble_eq_true rfl) (fun _ hx => by cases hx) (fun v u q => ?_) (fun n u q => q)
      obtain ⟨r, rfl, h⟩ := xqi_get q
      refine xJ.iushr (o_Evaluator_takeThings 22 rfl) rfl ?_
      refine xJ.i2l (o_Evaluator_takeThings 23 rfl) rfl ?_
      refine xJ.aload_n (o_Evaluator_takeThings 24 rfl) rfl ?_
      refine xJ.getfield (o_Evaluator_takeThings 25 rfl) f_Evaluator_25 rfl rfl ?_
      refine xJ.getfield (o_Evaluator_takeThings 26 rfl) f_Evaluator_46 rfl rfl ?_
      refine xJ.iload (o_Evaluator_takeThings 27 rfl) rfl ?_
      refine xJ.laload (o_Evaluator_takeThings 28 rfl) rfl h.1 ?_
      replace h := h.2
      refine xJ.land (o_Evaluator_takeThings 29 rfl) ?_
      refine xJ.lastore (o_Evaluator_takeThings 30 rfl) rfl h.1 ?_
      replace h := h.2
      replace h := h _ rfl
      refine xJ.iincC (w := 1) (o_Evaluator_takeThings 31 rfl) rfl (by decide) (by decide) ?_
      replace h := h _ rfl
      refine xJ.goto (tgt := 2) (o_Evaluator_takeThings 32 rfl) (by decide) ?_
      exact xJ.lvs (by exact ⟨rfl, rfl, rfl, rfl, trivial⟩) (ih _ _ _ _ h)
set_option maxRecDepth 20000 in
theorem s_Evaluator_takeThings_48 {γ : xG1} {d : Nat} {Q : xO → xS → Prop} {σ : xS} {a1 : Int32} {a2 : Int32} (h : wp_Evaluator_takeThings_48 Q σ a1 a2) : xM (SHP, γ) Y_Evaluator_takeThings (d + 1) [.ref 48, .int a1, .int a2] σ Q := by
  refine xM.of (by decide) (Nat.le_of_ble_eq_true rfl) ?_
  refine xJ.iconst (v := 0) (o_Evaluator_takeThings 0 rfl) (by decide) ?_
  refine xJ.istore_n (o_Evaluator_takeThings 1 rfl) (by decide) ?_
  obtain ⟨m, h⟩ := h
  exact xJ.lvs (by exact ⟨rfl, rfl, rfl, rfl, trivial⟩) (sw_Evaluator_takeThings_48_2 m _ _ _ _ h)
def w_Evaluator_evaluate_48_9 (Q : xO → xS → Prop) : Nat → Int32 → Int32 → xS → Prop
  | 0 => fun _ _ _ => False
  | n + 1 => fun a3 a4 σ =>
    ((a3 < a4 → Q (.inl none) σ) ∧ (¬ a3 < a4 → wp_Evaluator_workOut_48 (xqv (fun u3 => (∀ x5 : Int32, x5 = a4 + 1 → w_Evaluator_evaluate_48_9 Q n a3 x5 u3)) (fun n u => Q (.inr n) u)) σ a4))
def wp_Evaluator_evaluate_48 (Q : xO → xS → Prop) (σ : xS) (a1 : Int32) (a2 : Int32) (a3 : Int32) : Prop :=
  wp_Evaluator_takeThings_48 (xqv (fun u1 => ∃ m, w_Evaluator_evaluate_48_9 Q m a3 0 u1) (fun n u => Q (.inr n) u)) σ a1 a2
set_option maxRecDepth 20000 in
theorem sw_Evaluator_evaluate_48_9 {γ : xG1} {d b0 : Nat} {Q : xO → xS → Prop} : ∀ (n : Nat) (a3 : Int32) (a4 : Int32) (σ : xS), w_Evaluator_evaluate_48_9 Q n a3 a4 σ → xJ (SHP, γ) Y_Evaluator_evaluate (d + 4) b0 9 [(0, .ref 48), (3, .int a3), (4, .int a4)] [] σ Q := by
  intro n
  induction n with
  | zero => intro a3 a4 σ h; exact h.elim
  | succ n ih =>
    intro a3 a4 σ h
    refine xJ.iload (o_Evaluator_evaluate 6 rfl) rfl ?_
    refine xJ.iload_n (o_Evaluator_evaluate 7 rfl) rfl ?_
    refine xJ.icmp_gt (tgt := 27) (o_Evaluator_evaluate 8 rfl) (by decide) (fun z => ?_) (fun z => ?_)
    · replace h := h.1 z
      exact xJ.return_ (o_Evaluator_evaluate 14 rfl) rfl h
    · replace h := h.2 z
      refine xJ.aload_n (o_Evaluator_evaluate 9 rfl) rfl ?_
      refine xJ.iload (o_Evaluator_evaluate 10 rfl) rfl ?_
      refine xJ.callV (Y' := Y_Evaluator_workOut) (o_Evaluator_evaluate 11 rfl) m_Evaluator_30 y_Evaluator_workOut im_Evaluator_workOut se_Evaluator_workOut rfl rfl (s_Evaluator_workOut_48 h) rfl rfl (Nat.le_of_ble_eq_true rfl) (fun _ hx => by cases hx) (fun v u q => ?_) (fun n u q => q)
      obtain ⟨rfl, h⟩ := xqv_get q
      refine xJ.iincC (w := 1) (o_Evaluator_evaluate 12 rfl) rfl (by decide) (by decide) ?_
      replace h := h _ rfl
      refine xJ.goto (tgt := 9) (o_Evaluator_evaluate 13 rfl) (by decide) ?_
      exact xJ.lvs (by exact ⟨rfl, rfl, rfl, trivial⟩) (ih _ _ _ h)
set_option maxRecDepth 20000 in
theorem s_Evaluator_evaluate_48 {γ : xG1} {d : Nat} {Q : xO → xS → Prop} {σ : xS} {a1 : Int32} {a2 : Int32} {a3 : Int32} (h : wp_Evaluator_evaluate_48 Q σ a1 a2 a3) : xM (SHP, γ) Y_Evaluator_evaluate (d + 4) [.ref 48, .int a1, .int a2, .int a3] σ Q := by
  refine xM.of (by decide) (Nat.le_of_ble_eq_true rfl) ?_
  refine xJ.aload_n (o_Evaluator_evaluate 0 rfl) rfl ?_
  refine xJ.iload_n (o_Evaluator_evaluate 1 rfl) rfl ?_
  refine xJ.iload_n (o_Evaluator_evaluate 2 rfl) rfl ?_
  refine xJ.callV (Y' := Y_Evaluator_takeThings) (o_Evaluator_evaluate 3 rfl) m_Evaluator_26 y_Evaluator_takeThings im_Evaluator_takeThings se_Evaluator_takeThings rfl rfl (s_Evaluator_takeThings_48 h) rfl rfl (Nat.le_of_ble_eq_true rfl) (fun _ hx => by cases hx) (fun v u q => ?_) (fun n u q => q)
  obtain ⟨rfl, h⟩ := xqv_get q
  refine xJ.iconst (v := 0) (o_Evaluator_evaluate 4 rfl) (by decide) ?_
  refine xJ.istore (o_Evaluator_evaluate 5 rfl) (by decide) ?_
  obtain ⟨m, h⟩ := h
  exact xJ.lvs (by exact ⟨rfl, rfl, rfl, trivial⟩) (sw_Evaluator_evaluate_48_9 m _ _ _ h)
def w_Evaluator_folded_40_36 (Q : xO → xS → Prop) : Nat → Int32 → Int32 → Int64 → Int32 → xS → Prop
  | 0 => fun _ _ _ _ _ => False
  | n + 1 => fun a1 a2 a3 a5 σ =>
    (vp_in (a1 + 1) 2001 ∧ (((xi σ 9 (a1 + 1).toNatClampNeg) ≤ a5 → Q (.inl (some (.long a3))) σ) ∧ (¬ (xi σ 9 (a1 + 1).toNatClampNeg) ≤ a5 → (vp_in a5 80000 ∧ (vp_in (xi σ 10 a5.toNatClampNeg) 2000 ∧ (∀ x3 : Int64, x3 = (xl σ 41 (xi σ 10 a5.toNatClampNeg).toNatClampNeg) → ((a2 = 14 ∨ a2 = 23 → (∀ x4 : Int64, x4 = (a3 &&& x3) → (∀ x5 : Int32, x5 = a5 + 1 → w_Evaluator_folded_40_36 Q n a1 a2 x4 x5 σ))) ∧ (a2 = 15 ∨ a2 = 24 → (∀ x6 : Int64, x6 = (a3 ||| x3) → (∀ x7 : Int32, x7 = a5 + 1 → w_Evaluator_folded_40_36 Q n a1 a2 x6 x7 σ))) ∧ (a2 = 16 ∨ a2 = 25 → (∀ x8 : Int64, x8 = (a3 ^^^ x3) → (∀ x9 : Int32, x9 = a5 + 1 → w_Evaluator_folded_40_36 Q n a1 a2 x8 x9 σ))) ∧ (a2 = 26 → (∀ x10 : Int64, x10 = (a3 + x3) → (∀ x11 : Int32, x11 = a5 + 1 → w_Evaluator_folded_40_36 Q n a1 a2 x10 x11 σ))) ∧ (¬ a2 = 14 ∧ ¬ a2 = 15 ∧ ¬ a2 = 16 ∧ ¬ a2 = 23 ∧ ¬ a2 = 24 ∧ ¬ a2 = 25 ∧ ¬ a2 = 26 → (∀ x12 : Int64, x12 = (a3 * x3) → (∀ x13 : Int32, x13 = a5 + 1 → w_Evaluator_folded_40_36 Q n a1 a2 x12 x13 σ))))))))))
def wp_Evaluator_folded_40 (Q : xO → xS → Prop) (σ : xS) (a1 : Int32) (a2 : Int32) : Prop :=
  (vp_in a1 2001 ∧ (vp_in (xi σ 9 a1.toNatClampNeg) 80000 ∧ (vp_in (xi σ 10 (xi σ 9 a1.toNatClampNeg).toNatClampNeg) 2000 ∧ (∀ x1 : Int64, x1 = (xl σ 41 (xi σ 10 (xi σ 9 a1.toNatClampNeg).toNatClampNeg).toNatClampNeg) → (vp_in a1 2001 ∧ (∀ x2 : Int32, x2 = ((xi σ 9 a1.toNatClampNeg) + 1) → ∃ m, w_Evaluator_folded_40_36 Q m a1 a2 x1 x2 σ))))))
set_option maxRecDepth 20000 in
theorem sw_Evaluator_folded_40_36 {γ : xG1} {d b0 : Nat} {Q : xO → xS → Prop} : ∀ (n : Nat) (a1 : Int32) (a2 : Int32) (a3 : Int64) (a5 : Int32) (σ : xS), w_Evaluator_folded_40_36 Q n a1 a2 a3 a5 σ → xJ (SHP, γ) Y_Evaluator_folded (d + 0) b0 36 [(0, .ref 40), (1, .int a1), (2, .int a2), (3, .long a3), (5, .int a5)] [] σ Q := by
  intro n
  induction n with
  | zero => intro a1 a2 a3 a5 σ h; exact h.elim
  | succ n ih =>
    intro a1 a2 a3 a5 σ h
    refine xJ.iload (o_Evaluator_folded 21 rfl) rfl ?_
    refine xJ.aload_n (o_Evaluator_folded 22 rfl) rfl ?_
    refine xJ.getfield (o_Evaluator_folded 23 rfl) f_Evaluator_25 rfl rfl ?_
    refine xJ.getfield (o_Evaluator_folded 24 rfl) f_Evaluator_57 rfl rfl ?_
    refine xJ.iload_n (o_Evaluator_folded 25 rfl) rfl ?_
    refine xJ.iconst (v := 1) (o_Evaluator_folded 26 rfl) (by decide) ?_
    refine xJ.iadd (o_Evaluator_folded 27 rfl) ?_
    refine xJ.iaload (o_Evaluator_folded 28 rfl) rfl h.1 ?_
    replace h := h.2
    refine xJ.icmp_ge (tgt := 179) (o_Evaluator_folded 29 rfl) (by decide) (fun z => ?_) (fun z => ?_)
    · replace h := h.1 z
      refine xJ.lload_n (o_Evaluator_folded 67 rfl) rfl ?_
      exact xJ.lreturn (o_Evaluator_folded 68 rfl) rfl h
    · replace h := h.2 z
      refine xJ.aload_n (o_Evaluator_folded 30 rfl) rfl ?_
      refine xJ.getfield (o_Evaluator_folded 31 rfl) f_Evaluator_9 rfl rfl ?_
      refine xJ.aload_n (o_Evaluator_folded 32 rfl) rfl ?_
      refine xJ.getfield (o_Evaluator_folded 33 rfl) f_Evaluator_25 rfl rfl ?_
      refine xJ.getfield (o_Evaluator_folded 34 rfl) f_Evaluator_64 rfl rfl ?_
      refine xJ.iload (o_Evaluator_folded 35 rfl) rfl ?_
      refine xJ.iaload (o_Evaluator_folded 36 rfl) rfl h.1 ?_
      replace h := h.2
      refine xJ.laload (o_Evaluator_folded 37 rfl) rfl h.1 ?_
      replace h := h.2
      refine xJ.lstore (o_Evaluator_folded 38 rfl) (by decide) ?_
      replace h := h _ rfl
      refine xJ.iload_n (o_Evaluator_folded 39 rfl) rfl ?_
      refine xJ.tsw (o_Evaluator_folded 40 rfl) (by decide) (sc_Evaluator_folded_70 (fun z => ?_) (fun z => ?_) (fun z => ?_) (fun z => ?_) (fun z => ?_))
      · replace h := h.1 z
        refine xJ.lload_n (o_Evaluator_folded 41 rfl) rfl ?_
        refine xJ.lload (o_Evaluator_folded 42 rfl) rfl ?_
        refine xJ.land (o_Evaluator_folded 43 rfl) ?_
        refine xJ.lstore_n (o_Evaluator_folded 44 rfl) (by decide) ?_
        replace h := h _ rfl
        refine xJ.goto (tgt := 173) (o_Evaluator_folded 45 rfl) (by decide) ?_
        refine xJ.iincC (w := 1) (o_Evaluator_folded 65 rfl) rfl (by decide) (by decide) ?_
        replace h := h _ rfl
        refine xJ.goto (tgt := 36) (o_Evaluator_folded 66 rfl) (by decide) ?_
        exact xJ.lvs (by exact ⟨rfl, rfl, rfl, rfl, rfl, trivial⟩) (ih _ _ _ _ _ h)
      · replace h := h.2.1 z
        refine xJ.lload_n (o_Evaluator_folded 46 rfl) rfl ?_
        refine xJ.lload (o_Evaluator_folded 47 rfl) rfl ?_
        refine xJ.lor (o_Evaluator_folded 48 rfl) ?_
        refine xJ.lstore_n (o_Evaluator_folded 49 rfl) (by decide) ?_
        replace h := h _ rfl
        refine xJ.goto (tgt := 173) (o_Evaluator_folded 50 rfl) (by decide) ?_
        refine xJ.iincC (w := 1) (o_Evaluator_folded 65 rfl) rfl (by decide) (by decide) ?_
        replace h := h _ rfl
        refine xJ.goto (tgt := 36) (o_Evaluator_folded 66 rfl) (by decide) ?_
        exact xJ.lvs (by exact ⟨rfl, rfl, rfl, rfl, rfl, trivial⟩) (ih _ _ _ _ _ h)
      · replace h := h.2.2.1 z
        refine xJ.lload_n (o_Evaluator_folded 51 rfl) rfl ?_
        refine xJ.lload (o_Evaluator_folded 52 rfl) rfl ?_
        refine xJ.lxor (o_Evaluator_folded 53 rfl) ?_
        refine xJ.lstore_n (o_Evaluator_folded 54 rfl) (by decide) ?_
        replace h := h _ rfl
        refine xJ.goto (tgt := 173) (o_Evaluator_folded 55 rfl) (by decide) ?_
        refine xJ.iincC (w := 1) (o_Evaluator_folded 65 rfl) rfl (by decide) (by decide) ?_
        replace h := h _ rfl
        refine xJ.goto (tgt := 36) (o_Evaluator_folded 66 rfl) (by decide) ?_
        exact xJ.lvs (by exact ⟨rfl, rfl, rfl, rfl, rfl, trivial⟩) (ih _ _ _ _ _ h)
      · replace h := h.2.2.2.1 z
        refine xJ.lload_n (o_Evaluator_folded 56 rfl) rfl ?_
        refine xJ.lload (o_Evaluator_folded 57 rfl) rfl ?_
        refine xJ.ladd (o_Evaluator_folded 58 rfl) ?_
        refine xJ.lstore_n (o_Evaluator_folded 59 rfl) (by decide) ?_
        replace h := h _ rfl
        refine xJ.goto (tgt := 173) (o_Evaluator_folded 60 rfl) (by decide) ?_
        refine xJ.iincC (w := 1) (o_Evaluator_folded 65 rfl) rfl (by decide) (by decide) ?_
        replace h := h _ rfl
        refine xJ.goto (tgt := 36) (o_Evaluator_folded 66 rfl) (by decide) ?_
        exact xJ.lvs (by exact ⟨rfl, rfl, rfl, rfl, rfl, trivial⟩) (ih _ _ _ _ _ h)
      · replace h := h.2.2.2.2 z
        refine xJ.lload_n (o_Evaluator_folded 61 rfl) rfl ?_
        refine xJ.lload (o_Evaluator_folded 62 rfl) rfl ?_
        refine xJ.lmul (o_Evaluator_folded 63 rfl) ?_
        refine xJ.lstore_n (o_Evaluator_folded 64 rfl) (by decide) ?_
        replace h := h _ rfl
        refine xJ.iincC (w := 1) (o_Evaluator_folded 65 rfl) rfl (by decide) (by decide) ?_
        replace h := h _ rfl
        refine xJ.goto (tgt := 36) (o_Evaluator_folded 66 rfl) (by decide) ?_
        exact xJ.lvs (by exact ⟨rfl, rfl, rfl, rfl, rfl, trivial⟩) (ih _ _ _ _ _ h)
set_option maxRecDepth 20000 in
theorem s_Evaluator_folded_40 {γ : xG1} {d : Nat} {Q : xO → xS → Prop} {σ : xS} {a1 : Int32} {a2 : Int32} (h : wp_Evaluator_folded_40 Q σ a1 a2) : xM (SHP, γ) Y_Evaluator_folded (d + 0) [.ref 40, .int a1, .int a2] σ Q := by
  refine xM.of (by decide) (Nat.le_of_ble_eq_true rfl) ?_
  refine xJ.aload_n (o_Evaluator_folded 0 rfl) rfl ?_
  refine xJ.getfield (o_Evaluator_folded 1 rfl) f_Evaluator_9 rfl rfl ?_
  refine xJ.aload_n (o_Evaluator_folded 2 rfl) rfl ?_
  refine xJ.getfield (o_Evaluator_folded 3 rfl) f_Evaluator_25 rfl rfl ?_
  refine xJ.getfield (o_Evaluator_folded 4 rfl) f_Evaluator_64 rfl rfl ?_
  refine xJ.aload_n (o_Evaluator_folded 5 rfl) rfl ?_
  refine xJ.getfield (o_Evaluator_folded 6 rfl) f_Evaluator_25 rfl rfl ?_
  refine xJ.getfield (o_Evaluator_folded 7 rfl) f_Evaluator_57 rfl rfl ?_
  refine xJ.iload_n (o_Evaluator_folded 8 rfl) rfl ?_
  refine xJ.iaload (o_Evaluator_folded 9 rfl) rfl h.1 ?_
  replace h := h.2
  refine xJ.iaload (o_Evaluator_folded 10 rfl) rfl h.1 ?_
  replace h := h.2
  refine xJ.laload (o_Evaluator_folded 11 rfl) rfl h.1 ?_
  replace h := h.2
  refine xJ.lstore_n (o_Evaluator_folded 12 rfl) (by decide) ?_
  replace h := h _ rfl
  refine xJ.aload_n (o_Evaluator_folded 13 rfl) rfl ?_
  refine xJ.getfield (o_Evaluator_folded 14 rfl) f_Evaluator_25 rfl rfl ?_
  refine xJ.getfield (o_Evaluator_folded 15 rfl) f_Evaluator_57 rfl rfl ?_
  refine xJ.iload_n (o_Evaluator_folded 16 rfl) rfl ?_
  refine xJ.iaload (o_Evaluator_folded 17 rfl) rfl h.1 ?_
  replace h := h.2
  refine xJ.iconst (v := 1) (o_Evaluator_folded 18 rfl) (by decide) ?_
  refine xJ.iadd (o_Evaluator_folded 19 rfl) ?_
  refine xJ.istore (o_Evaluator_folded 20 rfl) (by decide) ?_
  replace h := h _ rfl
  obtain ⟨m, h⟩ := h
  exact xJ.lvs (by exact ⟨rfl, rfl, rfl, rfl, rfl, trivial⟩) (sw_Evaluator_folded_40_36 m _ _ _ _ _ h)
def w_Evaluator_implication_40_42 (Q : xO → xS → Prop) : Nat → Int32 → Int64 → Int32 → xS → Prop
  | 0 => fun _ _ _ _ => False
  | n + 1 => fun a1 a2 a4 σ =>
    (vp_in a1 2001 ∧ ((a4 < (xi σ 9 a1.toNatClampNeg) → Q (.inl (some (.long a2))) σ) ∧ (¬ a4 < (xi σ 9 a1.toNatClampNeg) → (vp_in a4 80000 ∧ (vp_in (xi σ 10 a4.toNatClampNeg) 2000 ∧ (∀ x3 : Int64, x3 = (a2 ||| ((xl σ 41 (xi σ 10 a4.toNatClampNeg).toNatClampNeg) ^^^ (-1))) → (∀ x4 : Int32, x4 = a4 + (-1) → w_Evaluator_implication_40_42 Q n a1 x3 x4 σ)))))))
def wp_Evaluator_implication_40 (Q : xO → xS → Prop) (σ : xS) (a1 : Int32) : Prop :=
  (vp_in (a1 + 1) 2001 ∧ (vp_in ((xi σ 9 (a1 + 1).toNatClampNeg) - 1) 80000 ∧ (vp_in (xi σ 10 ((xi σ 9 (a1 + 1).toNatClampNeg) - 1).toNatClampNeg) 2000 ∧ (∀ x1 : Int64, x1 = (xl σ 41 (xi σ 10 ((xi σ 9 (a1 + 1).toNatClampNeg) - 1).toNatClampNeg).toNatClampNeg) → (vp_in (a1 + 1) 2001 ∧ (∀ x2 : Int32, x2 = ((xi σ 9 (a1 + 1).toNatClampNeg) - 2) → ∃ m, w_Evaluator_implication_40_42 Q m a1 x1 x2 σ))))))
set_option maxRecDepth 20000 in
theorem sw_Evaluator_implication_40_42 {γ : xG1} {d b0 : Nat} {Q : xO → xS → Prop} : ∀ (n : Nat) (a1 : Int32) (a2 : Int64) (a4 : Int32) (σ : xS), w_Evaluator_implication_40_42 Q n a1 a2 a4 σ → xJ (SHP, γ) Y_Evaluator_implication (d + 0) b0 42 [(0, .ref 40), (1, .int a1), (2, .long a2), (4, .int a4)] [] σ Q := by
  intro n
  induction n with
  | zero => intro a1 a2 a4 σ h; exact h.elim
  | succ n ih =>
    intro a1 a2 a4 σ h
    refine xJ.iload (o_Evaluator_implication 27 rfl) rfl ?_
    refine xJ.aload_n (o_Evaluator_implication 28 rfl) rfl ?_
    refine xJ.getfield (o_Evaluator_implication 29 rfl) f_Evaluator_25 rfl rfl ?_
    refine xJ.getfield (o_Evaluator_implication 30 rfl) f_Evaluator_57 rfl rfl ?_
    refine xJ.iload_n (o_Evaluator_implication 31 rfl) rfl ?_
    refine xJ.iaload (o_Evaluator_implication 32 rfl) rfl h.1 ?_
    replace h := h.2
    refine xJ.icmp_lt (tgt := 84) (o_Evaluator_implication 33 rfl) (by decide) (fun z => ?_) (fun z => ?_)
    · replace h := h.1 z
      refine xJ.lload_n (o_Evaluator_implication 49 rfl) rfl ?_
      exact xJ.lreturn (o_Evaluator_implication 50 rfl) rfl h
    · replace h := h.2 z
      refine xJ.lload_n (o_Evaluator_implication 34 rfl) rfl ?_
      refine xJ.aload_n (o_Evaluator_implication 35 rfl) rfl ?_
      refine xJ.getfield (o_Evaluator_implication 36 rfl) f_Evaluator_9 rfl rfl ?_
      refine xJ.aload_n (o_Evaluator_implication 37 rfl) rfl ?_
      refine xJ.getfield (o_Evaluator_implication 38 rfl) f_Evaluator_25 rfl rfl ?_
      refine xJ.getfield (o_Evaluator_implication 39 rfl) f_Evaluator_64 rfl rfl ?_
      refine xJ.iload (o_Evaluator_implication 40 rfl) rfl ?_
      refine xJ.iaload (o_Evaluator_implication 41 rfl) rfl h.1 ?_
      replace h := h.2
      refine xJ.laload (o_Evaluator_implication 42 rfl) rfl h.1 ?_
      replace h := h.2
      refine xJ.ldc2 (v := (-1)) (o_Evaluator_implication 43 rfl) k_Evaluator_67 ?_
      refine xJ.lxor (o_Evaluator_implication 44 rfl) ?_
      refine xJ.lor (o_Evaluator_implication 45 rfl) ?_
      refine xJ.lstore_n (o_Evaluator_implication 46 rfl) (by decide) ?_
      replace h := h _ rfl
      refine xJ.iincC (w := (-1)) (o_Evaluator_implication 47 rfl) rfl (by decide) (by decide) ?_
      replace h := h _ rfl
      refine xJ.goto (tgt := 42) (o_Evaluator_implication 48 rfl) (by decide) ?_
      exact xJ.lvs (by exact ⟨rfl, rfl, rfl, rfl, trivial⟩) (ih _ _ _ _ h)
set_option maxRecDepth 20000 in
theorem s_Evaluator_implication_40 {γ : xG1} {d : Nat} {Q : xO → xS → Prop} {σ : xS} {a1 : Int32} (h : wp_Evaluator_implication_40 Q σ a1) : xM (SHP, γ) Y_Evaluator_implication (d + 0) [.ref 40, .int a1] σ Q := by
  refine xM.of (by decide) (Nat.le_of_ble_eq_true rfl) ?_
  refine xJ.aload_n (o_Evaluator_implication 0 rfl) rfl ?_
  refine xJ.getfield (o_Evaluator_implication 1 rfl) f_Evaluator_9 rfl rfl ?_
  refine xJ.aload_n (o_Evaluator_implication 2 rfl) rfl ?_
  refine xJ.getfield (o_Evaluator_implication 3 rfl) f_Evaluator_25 rfl rfl ?_
  refine xJ.getfield (o_Evaluator_implication 4 rfl) f_Evaluator_64 rfl rfl ?_
  refine xJ.aload_n (o_Evaluator_implication 5 rfl) rfl ?_
  refine xJ.getfield (o_Evaluator_implication 6 rfl) f_Evaluator_25 rfl rfl ?_
  refine xJ.getfield (o_Evaluator_implication 7 rfl) f_Evaluator_57 rfl rfl ?_
  refine xJ.iload_n (o_Evaluator_implication 8 rfl) rfl ?_
  refine xJ.iconst (v := 1) (o_Evaluator_implication 9 rfl) (by decide) ?_
  refine xJ.iadd (o_Evaluator_implication 10 rfl) ?_
  refine xJ.iaload (o_Evaluator_implication 11 rfl) rfl h.1 ?_
  replace h := h.2
  refine xJ.iconst (v := 1) (o_Evaluator_implication 12 rfl) (by decide) ?_
  refine xJ.isub (o_Evaluator_implication 13 rfl) ?_
  refine xJ.iaload (o_Evaluator_implication 14 rfl) rfl h.1 ?_
  replace h := h.2
  refine xJ.laload (o_Evaluator_implication 15 rfl) rfl h.1 ?_
  replace h := h.2
  refine xJ.lstore_n (o_Evaluator_implication 16 rfl) (by decide) ?_
  replace h := h _ rfl
  refine xJ.aload_n (o_Evaluator_implication 17 rfl) rfl ?_
  refine xJ.getfield (o_Evaluator_implication 18 rfl) f_Evaluator_25 rfl rfl ?_
  refine xJ.getfield (o_Evaluator_implication 19 rfl) f_Evaluator_57 rfl rfl ?_
  refine xJ.iload_n (o_Evaluator_implication 20 rfl) rfl ?_
  refine xJ.iconst (v := 1) (o_Evaluator_implication 21 rfl) (by decide) ?_
  refine xJ.iadd (o_Evaluator_implication 22 rfl) ?_
  refine xJ.iaload (o_Evaluator_implication 23 rfl) rfl h.1 ?_
  replace h := h.2
  refine xJ.iconst (v := 2) (o_Evaluator_implication 24 rfl) (by decide) ?_
  refine xJ.isub (o_Evaluator_implication 25 rfl) ?_
  refine xJ.istore (o_Evaluator_implication 26 rfl) (by decide) ?_
  replace h := h _ rfl
  obtain ⟨m, h⟩ := h
  exact xJ.lvs (by exact ⟨rfl, rfl, rfl, rfl, trivial⟩) (sw_Evaluator_implication_40_42 m _ _ _ _ h)
def w_Evaluator_isAllSame_40_12 (Q : xO → xS → Prop) : Nat → Int32 → Int32 → xS → Prop
  | 0 => fun _ _ _ => False
  | n + 1 => fun a1 a2 σ =>
    (vp_in (a1 + 1) 2001 ∧ (((xi σ 9 (a1 + 1).toNatClampNeg) ≤ a2 → Q (.inl (some (.int 1))) σ) ∧ (¬ (xi σ 9 (a1 + 1).toNatClampNeg) ≤ a2 → (vp_in a2 80000 ∧ (vp_in (xi σ 10 a2.toNatClampNeg) 2000 ∧ (vp_in (a2 - 1) 80000 ∧ (vp_in (xi σ 10 (a2 - 1).toNatClampNeg) 2000 ∧ (((lg_cmp (xl σ 41 (xi σ 10 a2.toNatClampNeg).toNatClampNeg) (xl σ 41 (xi σ 10 (a2 - 1).toNatClampNeg).toNatClampNeg)) = 0 → (∀ x2 : Int32, x2 = a2 + 1 → w_Evaluator_isAllSame_40_12 Q n a1 x2 σ)) ∧ (¬ (lg_cmp (xl σ 41 (xi σ 10 a2.toNatClampNeg).toNatClampNeg) (xl σ 41 (xi σ 10 (a2 - 1).toNatClampNeg).toNatClampNeg)) = 0 → Q (.inl (some (.int 0))) σ)))))))))
def wp_Evaluator_isAllSame_40 (Q : xO → xS → Prop) (σ : xS) (a1 : Int32) : Prop :=
  (vp_in a1 2001 ∧ (∀ x1 : Int32, x1 = ((xi σ 9 a1.toNatClampNeg) + 1) → ∃ m, w_Evaluator_isAllSame_40_12 Q m a1 x1 σ))
set_option maxRecDepth 20000 in
theorem sw_Evaluator_isAllSame_40_12 {γ : xG1} {d b0 : Nat} {Q : xO → xS → Prop} : ∀ (n : Nat) (a1 : Int32) (a2 : Int32) (σ : xS), w_Evaluator_isAllSame_40_12 Q n a1 a2 σ → xJ (SHP, γ) Y_Evaluator_isAllSame (d + 0) b0 12 [(0, .ref 40), (1, .int a1), (2, .int a2)] [] σ Q := by
  intro n
  induction n with
  | zero => intro a1 a2 σ h; exact h.elim
  | succ n ih =>
    intro a1 a2 σ h
    refine xJ.iload_n (o_Evaluator_isAllSame 8 rfl) rfl ?_
    refine xJ.aload_n (o_Evaluator_isAllSame 9 rfl) rfl ?_
    refine xJ.getfield (o_Evaluator_isAllSame 10 rfl) f_Evaluator_25 rfl rfl ?_
    refine xJ.getfield (o_Evaluator_isAllSame 11 rfl) f_Evaluator_57 rfl rfl ?_
    refine xJ.iload_n (o_Evaluator_isAllSame 12 rfl) rfl ?_
    refine xJ.iconst (v := 1) (o_Evaluator_isAllSame 13 rfl) (by decide) ?_
    refine xJ.iadd (o_Evaluator_isAllSame 14 rfl) ?_
    refine xJ.iaload (o_Evaluator_isAllSame 15 rfl) rfl h.1 ?_
    replace h := h.2
    refine xJ.icmp_ge (tgt := 69) (o_Evaluator_isAllSame 16 rfl) (by decide) (fun z => ?_) (fun z => ?_)
    · replace h := h.1 z
      refine xJ.iconst (v := 1) (o_Evaluator_isAllSame 41 rfl) (by decide) ?_
      exact xJ.zreturn (o_Evaluator_isAllSame 42 rfl) rfl (Or.inr rfl) h
    · replace h := h.2 z
      refine xJ.aload_n (o_Evaluator_isAllSame 17 rfl) rfl ?_
      refine xJ.getfield (o_Evaluator_isAllSame 18 rfl) f_Evaluator_9 rfl rfl ?_
      refine xJ.aload_n (o_Evaluator_isAllSame 19 rfl) rfl ?_
      refine xJ.getfield (o_Evaluator_isAllSame 20 rfl) f_Evaluator_25 rfl rfl ?_
      refine xJ.getfield (o_Evaluator_isAllSame 21 rfl) f_Evaluator_64 rfl rfl ?_
      refine xJ.iload_n (o_Evaluator_isAllSame 22 rfl) rfl ?_
      refine xJ.iaload (o_Evaluator_isAllSame 23 rfl) rfl h.1 ?_
      replace h := h.2
      refine xJ.laload (o_Evaluator_isAllSame 24 rfl) rfl h.1 ?_
      replace h := h.2
      refine xJ.aload_n (o_Evaluator_isAllSame 25 rfl) rfl ?_
      refine xJ.getfield (o_Evaluator_isAllSame 26 rfl) f_Evaluator_9 rfl rfl ?_
      refine xJ.aload_n (o_Evaluator_isAllSame 27 rfl) rfl ?_
      refine xJ.getfield (o_Evaluator_isAllSame 28 rfl) f_Evaluator_25 rfl rfl ?_
      refine xJ.getfield (o_Evaluator_isAllSame 29 rfl) f_Evaluator_64 rfl rfl ?_
      refine xJ.iload_n (o_Evaluator_isAllSame 30 rfl) rfl ?_
      refine xJ.iconst (v := 1) (o_Evaluator_isAllSame 31 rfl) (by decide) ?_
      refine xJ.isub (o_Evaluator_isAllSame 32 rfl) ?_
      refine xJ.iaload (o_Evaluator_isAllSame 33 rfl) rfl h.1 ?_
      replace h := h.2
      refine xJ.laload (o_Evaluator_isAllSame 34 rfl) rfl h.1 ?_
      replace h := h.2
      refine xJ.lcmp (o_Evaluator_isAllSame 35 rfl) ?_
      refine xJ.if_eq (tgt := 63) (o_Evaluator_isAllSame 36 rfl) (by decide) (fun z => ?_) (fun z => ?_)
      · replace h := h.1 z
        refine xJ.iincC (w := 1) (o_Evaluator_isAllSame 39 rfl) rfl (by decide) (by decide) ?_
        replace h := h _ rfl
        refine xJ.goto (tgt := 12) (o_Evaluator_isAllSame 40 rfl) (by decide) ?_
        exact xJ.lvs (by exact ⟨rfl, rfl, rfl, trivial⟩) (ih _ _ _ h)
      · replace h := h.2 z
        refine xJ.iconst (v := 0) (o_Evaluator_isAllSame 37 rfl) (by decide) ?_
        exact xJ.zreturn (o_Evaluator_isAllSame 38 rfl) rfl (Or.inl rfl) h
set_option maxRecDepth 20000 in
theorem s_Evaluator_isAllSame_40 {γ : xG1} {d : Nat} {Q : xO → xS → Prop} {σ : xS} {a1 : Int32} (h : wp_Evaluator_isAllSame_40 Q σ a1) : xM (SHP, γ) Y_Evaluator_isAllSame (d + 0) [.ref 40, .int a1] σ Q := by
  refine xM.of (by decide) (Nat.le_of_ble_eq_true rfl) ?_
  refine xJ.aload_n (o_Evaluator_isAllSame 0 rfl) rfl ?_
  refine xJ.getfield (o_Evaluator_isAllSame 1 rfl) f_Evaluator_25 rfl rfl ?_
  refine xJ.getfield (o_Evaluator_isAllSame 2 rfl) f_Evaluator_57 rfl rfl ?_
  refine xJ.iload_n (o_Evaluator_isAllSame 3 rfl) rfl ?_
  refine xJ.iaload (o_Evaluator_isAllSame 4 rfl) rfl h.1 ?_
  replace h := h.2
  refine xJ.iconst (v := 1) (o_Evaluator_isAllSame 5 rfl) (by decide) ?_
  refine xJ.iadd (o_Evaluator_isAllSame 6 rfl) ?_
  refine xJ.istore_n (o_Evaluator_isAllSame 7 rfl) (by decide) ?_
  replace h := h _ rfl
  obtain ⟨m, h⟩ := h
  exact xJ.lvs (by exact ⟨rfl, rfl, rfl, trivial⟩) (sw_Evaluator_isAllSame_40_12 m _ _ _ h)
def w_Evaluator_isAllOther_40_37 (Q : xO → xS → Prop) (K12 : Int32 → Int32 → xS → Prop) : Nat → Int32 → Int32 → Int32 → xS → Prop
  | 0 => fun _ _ _ _ => False
  | n + 1 => fun a1 a2 a3 σ =>
    ((a2 ≤ a3 → (∀ x3 : Int32, x3 = a2 + 1 → K12 a1 x3 σ)) ∧ (¬ a2 ≤ a3 → (vp_in a2 80000 ∧ (vp_in (xi σ 10 a2.toNatClampNeg) 2000 ∧ (vp_in a3 80000 ∧ (vp_in (xi σ 10 a3.toNatClampNeg) 2000 ∧ ((¬ (lg_cmp (xl σ 41 (xi σ 10 a2.toNatClampNeg).toNatClampNeg) (xl σ 41 (xi σ 10 a3.toNatClampNeg).toNatClampNeg)) = 0 → (∀ x4 : Int32, x4 = a3 + 1 → w_Evaluator_isAllOther_40_37 Q K12 n a1 a2 x4 σ)) ∧ ((lg_cmp (xl σ 41 (xi σ 10 a2.toNatClampNeg).toNatClampNeg) (xl σ 41 (xi σ 10 a3.toNatClampNeg).toNatClampNeg)) = 0 → Q (.inl (some (.int 0))) σ))))))))
def w_Evaluator_isAllOther_40_12 (Q : xO → xS → Prop) : Nat → Int32 → Int32 → xS → Prop
  | 0 => fun _ _ _ => False
  | n + 1 => fun a1 a2 σ =>
    (vp_in (a1 + 1) 2001 ∧ (((xi σ 9 (a1 + 1).toNatClampNeg) ≤ a2 → Q (.inl (some (.int 1))) σ) ∧ (¬ (xi σ 9 (a1 + 1).toNatClampNeg) ≤ a2 → (vp_in a1 2001 ∧ (∀ x2 : Int32, x2 = (xi σ 9 a1.toNatClampNeg) → ∃ m, w_Evaluator_isAllOther_40_37 Q (w_Evaluator_isAllOther_40_12 Q n) m a1 a2 x2 σ)))))
def wp_Evaluator_isAllOther_40 (Q : xO → xS → Prop) (σ : xS) (a1 : Int32) : Prop :=
  (vp_in a1 2001 ∧ (∀ x1 : Int32, x1 = ((xi σ 9 a1.toNatClampNeg) + 1) → ∃ m, w_Evaluator_isAllOther_40_12 Q m a1 x1 σ))
set_option maxRecDepth 20000 in
theorem sw_Evaluator_isAllOther_40_37 {γ : xG1} {d b0 : Nat} {Q : xO → xS → Prop} {K12 : Int32 → Int32 → xS → Prop} (hK12 : ∀ a1 a2 σ, K12 a1 a2 σ → xJ (SHP, γ) Y_Evaluator_isAllOther (d + 0) b0 12 [(0, .ref 40), (1, .int a1), (2, .int a2)] [] σ Q) : ∀ (n : Nat) (a1 : Int32) (a2 : Int32) (a3 : Int32) (σ : xS), w_Evaluator_isAllOther_40_37 Q K12 n a1 a2 a3 σ → xJ (SHP, γ) Y_Evaluator_isAllOther (d + 0) b0 37 [(0, .ref 40), (1, .int a1), (2, .int a2), (3, .int a3)] [] σ Q := by
  intro n
  induction n with
  | zero => intro a1 a2 a3 σ h; exact h.elim
  | succ n ih =>
    intro a1 a2 a3 σ h
    refine xJ.iload_n (o_Evaluator_isAllOther 23 rfl) rfl ?_
    refine xJ.iload_n (o_Evaluator_isAllOther 24 rfl) rfl ?_
    refine xJ.icmp_ge (tgt := 82) (o_Evaluator_isAllOther 25 rfl) (by decide) (fun z => ?_) (fun z => ?_)
    · replace h := h.1 z
      refine xJ.iincC (w := 1) (o_Evaluator_isAllOther 48 rfl) rfl (by decide) (by decide) ?_
      replace h := h _ rfl
      refine xJ.goto (tgt := 12) (o_Evaluator_isAllOther 49 rfl) (by decide) ?_
      exact xJ.lvs (by exact ⟨rfl, rfl, rfl, trivial⟩) (hK12 _ _ _ h)
    · replace h := h.2 z
      refine xJ.aload_n (o_Evaluator_isAllOther 26 rfl) rfl ?_
      refine xJ.getfield (o_Evaluator_isAllOther 27 rfl) f_Evaluator_9 rfl rfl ?_
      refine xJ.aload_n (o_Evaluator_isAllOther 28 rfl) rfl ?_
      refine xJ.getfield (o_Evaluator_isAllOther 29 rfl) f_Evaluator_25 rfl rfl ?_
      refine xJ.getfield (o_Evaluator_isAllOther 30 rfl) f_Evaluator_64 rfl rfl ?_
      refine xJ.iload_n (o_Evaluator_isAllOther 31 rfl) rfl ?_
      refine xJ.iaload (o_Evaluator_isAllOther 32 rfl) rfl h.1 ?_
      replace h := h.2
      refine xJ.laload (o_Evaluator_isAllOther 33 rfl) rfl h.1 ?_
      replace h := h.2
      refine xJ.aload_n (o_Evaluator_isAllOther 34 rfl) rfl ?_
      refine xJ.getfield (o_Evaluator_isAllOther 35 rfl) f_Evaluator_9 rfl rfl ?_
      refine xJ.aload_n (o_Evaluator_isAllOther 36 rfl) rfl ?_
      refine xJ.getfield (o_Evaluator_isAllOther 37 rfl) f_Evaluator_25 rfl rfl ?_
      refine xJ.getfield (o_Evaluator_isAllOther 38 rfl) f_Evaluator_64 rfl rfl ?_
      refine xJ.iload_n (o_Evaluator_isAllOther 39 rfl) rfl ?_
      refine xJ.iaload (o_Evaluator_isAllOther 40 rfl) rfl h.1 ?_
      replace h := h.2
      refine xJ.laload (o_Evaluator_isAllOther 41 rfl) rfl h.1 ?_
      replace h := h.2
      refine xJ.lcmp (o_Evaluator_isAllOther 42 rfl) ?_
      refine xJ.if_ne (tgt := 76) (o_Evaluator_isAllOther 43 rfl) (by decide) (fun z => ?_) (fun z => ?_)
      · replace h := h.1 z
        refine xJ.iincC (w := 1) (o_Evaluator_isAllOther 46 rfl) rfl (by decide) (by decide) ?_
        replace h := h _ rfl
        refine xJ.goto (tgt := 37) (o_Evaluator_isAllOther 47 rfl) (by decide) ?_
        exact xJ.lvs (by exact ⟨rfl, rfl, rfl, rfl, trivial⟩) (ih _ _ _ _ h)
      · replace h := h.2 z
        refine xJ.iconst (v := 0) (o_Evaluator_isAllOther 44 rfl) (by decide) ?_
        exact xJ.zreturn (o_Evaluator_isAllOther 45 rfl) rfl (Or.inl rfl) h
set_option maxRecDepth 20000 in
theorem sw_Evaluator_isAllOther_40_12 {γ : xG1} {d b0 : Nat} {Q : xO → xS → Prop} : ∀ (n : Nat) (a1 : Int32) (a2 : Int32) (σ : xS), w_Evaluator_isAllOther_40_12 Q n a1 a2 σ → xJ (SHP, γ) Y_Evaluator_isAllOther (d + 0) b0 12 [(0, .ref 40), (1, .int a1), (2, .int a2)] [] σ Q := by
  intro n
  induction n with
  | zero => intro a1 a2 σ h; exact h.elim
  | succ n ih =>
    intro a1 a2 σ h
    refine xJ.iload_n (o_Evaluator_isAllOther 8 rfl) rfl ?_
    refine xJ.aload_n (o_Evaluator_isAllOther 9 rfl) rfl ?_
    refine xJ.getfield (o_Evaluator_isAllOther 10 rfl) f_Evaluator_25 rfl rfl ?_
    refine xJ.getfield (o_Evaluator_isAllOther 11 rfl) f_Evaluator_57 rfl rfl ?_
    refine xJ.iload_n (o_Evaluator_isAllOther 12 rfl) rfl ?_
    refine xJ.iconst (v := 1) (o_Evaluator_isAllOther 13 rfl) (by decide) ?_
    refine xJ.iadd (o_Evaluator_isAllOther 14 rfl) ?_
    refine xJ.iaload (o_Evaluator_isAllOther 15 rfl) rfl h.1 ?_
    replace h := h.2
    refine xJ.icmp_ge (tgt := 88) (o_Evaluator_isAllOther 16 rfl) (by decide) (fun z => ?_) (fun z => ?_)
    · replace h := h.1 z
      refine xJ.iconst (v := 1) (o_Evaluator_isAllOther 50 rfl) (by decide) ?_
      exact xJ.zreturn (o_Evaluator_isAllOther 51 rfl) rfl (Or.inr rfl) h
    · replace h := h.2 z
      refine xJ.aload_n (o_Evaluator_isAllOther 17 rfl) rfl ?_
      refine xJ.getfield (o_Evaluator_isAllOther 18 rfl) f_Evaluator_25 rfl rfl ?_
      refine xJ.getfield (o_Evaluator_isAllOther 19 rfl) f_Evaluator_57 rfl rfl ?_
      refine xJ.iload_n (o_Evaluator_isAllOther 20 rfl) rfl ?_
      refine xJ.iaload (o_Evaluator_isAllOther 21 rfl) rfl h.1 ?_
      replace h := h.2
      refine xJ.istore_n (o_Evaluator_isAllOther 22 rfl) (by decide) ?_
      replace h := h _ rfl
      obtain ⟨m, h⟩ := h
      exact xJ.lvs (by exact ⟨rfl, rfl, rfl, rfl, trivial⟩) (sw_Evaluator_isAllOther_40_37 ih m _ _ _ _ h)
set_option maxRecDepth 20000 in
theorem s_Evaluator_isAllOther_40 {γ : xG1} {d : Nat} {Q : xO → xS → Prop} {σ : xS} {a1 : Int32} (h : wp_Evaluator_isAllOther_40 Q σ a1) : xM (SHP, γ) Y_Evaluator_isAllOther (d + 0) [.ref 40, .int a1] σ Q := by
  refine xM.of (by decide) (Nat.le_of_ble_eq_true rfl) ?_
  refine xJ.aload_n (o_Evaluator_isAllOther 0 rfl) rfl ?_
  refine xJ.getfield (o_Evaluator_isAllOther 1 rfl) f_Evaluator_25 rfl rfl ?_
  refine xJ.getfield (o_Evaluator_isAllOther 2 rfl) f_Evaluator_57 rfl rfl ?_
  refine xJ.iload_n (o_Evaluator_isAllOther 3 rfl) rfl ?_
  refine xJ.iaload (o_Evaluator_isAllOther 4 rfl) rfl h.1 ?_
  replace h := h.2
  refine xJ.iconst (v := 1) (o_Evaluator_isAllOther 5 rfl) (by decide) ?_
  refine xJ.iadd (o_Evaluator_isAllOther 6 rfl) ?_
  refine xJ.istore_n (o_Evaluator_isAllOther 7 rfl) (by decide) ?_
  replace h := h _ rfl
  obtain ⟨m, h⟩ := h
  exact xJ.lvs (by exact ⟨rfl, rfl, rfl, trivial⟩) (sw_Evaluator_isAllOther_40_12 m _ _ _ h)
def w_Evaluator_concat_40_13 (Q : xO → xS → Prop) : Nat → Int32 → Int64 → Int32 → xS → Prop
  | 0 => fun _ _ _ _ => False
  | n + 1 => fun a1 a2 a4 σ =>
    (vp_in (a1 + 1) 2001 ∧ (((xi σ 9 (a1 + 1).toNatClampNeg) ≤ a4 → Q (.inl (some (.long a2))) σ) ∧ (¬ (xi σ 9 (a1 + 1).toNatClampNeg) ≤ a4 → (vp_in a4 80000 ∧ (∀ x2 : Int32, x2 = (xi σ 10 a4.toNatClampNeg) → (vp_in x2 2000 ∧ (vp_in x2 2000 ∧ (∀ x3 : Int64, x3 = ((jlshl a2 (xi σ 8 x2.toNatClampNeg)) ||| (xl σ 41 x2.toNatClampNeg)) → (∀ x4 : Int32, x4 = a4 + 1 → w_Evaluator_concat_40_13 Q n a1 x3 x4 σ)))))))))
def wp_Evaluator_concat_40 (Q : xO → xS → Prop) (σ : xS) (a1 : Int32) : Prop :=
  (vp_in a1 2001 ∧ (∀ x1 : Int32, x1 = (xi σ 9 a1.toNatClampNeg) → ∃ m, w_Evaluator_concat_40_13 Q m a1 0 x1 σ))
set_option maxRecDepth 20000 in
theorem sw_Evaluator_concat_40_13 {γ : xG1} {d b0 : Nat} {Q : xO → xS → Prop} : ∀ (n : Nat) (a1 : Int32) (a2 : Int64) (a4 : Int32) (σ : xS), w_Evaluator_concat_40_13 Q n a1 a2 a4 σ → xJ (SHP, γ) Y_Evaluator_concat (d + 0) b0 13 [(0, .ref 40), (1, .int a1), (2, .long a2), (4, .int a4)] [] σ Q := by
  intro n
  induction n with
  | zero => intro a1 a2 a4 σ h; exact h.elim
  | succ n ih =>
    intro a1 a2 a4 σ h
    refine xJ.iload (o_Evaluator_concat 8 rfl) rfl ?_
    refine xJ.aload_n (o_Evaluator_concat 9 rfl) rfl ?_
    refine xJ.getfield (o_Evaluator_concat 10 rfl) f_Evaluator_25 rfl rfl ?_
    refine xJ.getfield (o_Evaluator_concat 11 rfl) f_Evaluator_57 rfl rfl ?_
    refine xJ.iload_n (o_Evaluator_concat 12 rfl) rfl ?_
    refine xJ.iconst (v := 1) (o_Evaluator_concat 13 rfl) (by decide) ?_
    refine xJ.iadd (o_Evaluator_concat 14 rfl) ?_
    refine xJ.iaload (o_Evaluator_concat 15 rfl) rfl h.1 ?_
    replace h := h.2
    refine xJ.icmp_ge (tgt := 68) (o_Evaluator_concat 16 rfl) (by decide) (fun z => ?_) (fun z => ?_)
    · replace h := h.1 z
      refine xJ.lload_n (o_Evaluator_concat 38 rfl) rfl ?_
      exact xJ.lreturn (o_Evaluator_concat 39 rfl) rfl h
    · replace h := h.2 z
      refine xJ.aload_n (o_Evaluator_concat 17 rfl) rfl ?_
      refine xJ.getfield (o_Evaluator_concat 18 rfl) f_Evaluator_25 rfl rfl ?_
      refine xJ.getfield (o_Evaluator_concat 19 rfl) f_Evaluator_64 rfl rfl ?_
      refine xJ.iload (o_Evaluator_concat 20 rfl) rfl ?_
      refine xJ.iaload (o_Evaluator_concat 21 rfl) rfl h.1 ?_
      replace h := h.2
      refine xJ.istore (o_Evaluator_concat 22 rfl) (by decide) ?_
      replace h := h _ rfl
      refine xJ.lload_n (o_Evaluator_concat 23 rfl) rfl ?_
      refine xJ.aload_n (o_Evaluator_concat 24 rfl) rfl ?_
      refine xJ.getfield (o_Evaluator_concat 25 rfl) f_Evaluator_25 rfl rfl ?_
      refine xJ.getfield (o_Evaluator_concat 26 rfl) f_Evaluator_90 rfl rfl ?_
      refine xJ.iload (o_Evaluator_concat 27 rfl) rfl ?_
      refine xJ.iaload (o_Evaluator_concat 28 rfl) rfl h.1 ?_
      replace h := h.2
      refine xJ.lshl (o_Evaluator_concat 29 rfl) rfl ?_
      refine xJ.aload_n (o_Evaluator_concat 30 rfl) rfl ?_
      refine xJ.getfield (o_Evaluator_concat 31 rfl) f_Evaluator_9 rfl rfl ?_
      refine xJ.iload (o_Evaluator_concat 32 rfl) rfl ?_
      refine xJ.laload (o_Evaluator_concat 33 rfl) rfl h.1 ?_
      replace h := h.2
      refine xJ.lor (o_Evaluator_concat 34 rfl) ?_
      refine xJ.lstore_n (o_Evaluator_concat 35 rfl) (by decide) ?_
      replace h := h _ rfl
      refine xJ.iincC (w := 1) (o_Evaluator_concat 36 rfl) rfl (by decide) (by decide) ?_
      replace h := h _ rfl
      refine xJ.goto (tgt := 13) (o_Evaluator_concat 37 rfl) (by decide) ?_
      exact xJ.lvs (by exact ⟨rfl, rfl, rfl, rfl, trivial⟩) (ih _ _ _ _ h)
set_option maxRecDepth 20000 in
theorem s_Evaluator_concat_40 {γ : xG1} {d : Nat} {Q : xO → xS → Prop} {σ : xS} {a1 : Int32} (h : wp_Evaluator_concat_40 Q σ a1) : xM (SHP, γ) Y_Evaluator_concat (d + 0) [.ref 40, .int a1] σ Q := by
  refine xM.of (by decide) (Nat.le_of_ble_eq_true rfl) ?_
  refine xJ.lconst (v := 0) (o_Evaluator_concat 0 rfl) (by decide) ?_
  refine xJ.lstore_n (o_Evaluator_concat 1 rfl) (by decide) ?_
  refine xJ.aload_n (o_Evaluator_concat 2 rfl) rfl ?_
  refine xJ.getfield (o_Evaluator_concat 3 rfl) f_Evaluator_25 rfl rfl ?_
  refine xJ.getfield (o_Evaluator_concat 4 rfl) f_Evaluator_57 rfl rfl ?_
  refine xJ.iload_n (o_Evaluator_concat 5 rfl) rfl ?_
  refine xJ.iaload (o_Evaluator_concat 6 rfl) rfl h.1 ?_
  replace h := h.2
  refine xJ.istore (o_Evaluator_concat 7 rfl) (by decide) ?_
  replace h := h _ rfl
  obtain ⟨m, h⟩ := h
  exact xJ.lvs (by exact ⟨rfl, rfl, rfl, rfl, trivial⟩) (sw_Evaluator_concat_40_13 m _ _ _ _ h)
def wp_Evaluator_store_40 (Q : xO → xS → Prop) (σ : xS) (a1 : Int32) (a2 : Int64) (a4 : Int64) : Prop :=
  (vp_in a1 2000 ∧ (∀ x1 : Int32, x1 = (xi σ 8 a1.toNatClampNeg) → wp_Sorts_cellShift (xqi (fun r3 u2 => wp_Sorts_width (xqi (fun r5 u4 => wp_Words_mask (xql (fun r7 u6 => (∀ x8 : Int64, x8 = (jlshl r7 r3) → (vp_in a1 2000 ∧ Q (.inl (some (.long (((xl u6 41 a1.toNatClampNeg) &&& (x8 ^^^ (-1))) ||| (jlshl a4 r3))))) u6))) (fun n u => Q (.inr n) u)) u4 r5) (fun n u => Q (.inr n) u)) u2 x1) (fun n u => Q (.inr n) u)) σ x1 a2))
set_option maxRecDepth 20000 in
theorem s_Evaluator_store_40 {γ : xG1} {d : Nat} {Q : xO → xS → Prop} {σ : xS} {a1 : Int32} {a2 : Int64} {a4 : Int64} (h : wp_Evaluator_store_40 Q σ a1 a2 a4) : xM (SHP, γ) Y_Evaluator_store (d + 1) [.ref 40, .int a1, .long a2, .long a4] σ Q := by
  refine xM.of (by decide) (Nat.le_of_ble_eq_true rfl) ?_
  refine xJ.aload_n (o_Evaluator_store 0 rfl) rfl ?_
  refine xJ.getfield (o_Evaluator_store 1 rfl) f_Evaluator_25 rfl rfl ?_
  refine xJ.getfield (o_Evaluator_store 2 rfl) f_Evaluator_90 rfl rfl ?_
  refine xJ.iload_n (o_Evaluator_store 3 rfl) rfl ?_
  refine xJ.iaload (o_Evaluator_store 4 rfl) rfl h.1 ?_
  replace h := h.2
  refine xJ.istore (o_Evaluator_store 5 rfl) (by decide) ?_
  replace h := h _ rfl
  refine xJ.iload (o_Evaluator_store 6 rfl) rfl ?_
  refine xJ.lload_n (o_Evaluator_store 7 rfl) rfl ?_
  refine xJ.callS (Y' := Y_Sorts_cellShift) (o_Evaluator_store 8 rfl) m_Evaluator_116 y_Sorts_cellShift st_Sorts_cellShift (s_Sorts_cellShift h) rfl rfl (Nat.le_of_ble_eq_true rfl) (fun _ hx => by cases hx) (fun v u q => ?_) (fun n u q => q)
  obtain ⟨r, rfl, h⟩ := xqi_get q
  refine xJ.istore (o_Evaluator_store 9 rfl) (by decide) ?_
  refine xJ.iload (o_Evaluator_store 10 rfl) rfl ?_
  refine xJ.callS (Y' := Y_Sorts_width) (o_Evaluator_store 11 rfl) m_Evaluator_120 y_Sorts_width st_Sorts_width (s_Sorts_width h) rfl rfl (Nat.le_of_ble_eq_true rfl) (fun _ hx => by cases hx) (fun v u q => ?_) (fun n u q => q)
  obtain ⟨r, rfl, h⟩ := xqi_get q
  refine xJ.callS (Y' := Y_Words_mask) (o_Evaluator_store 12 rfl) m_Evaluator_124 y_Words_mask st_Words_mask (s_Words_mask h) rfl rfl (Nat.le_of_ble_eq_true rfl) (fun _ hx => by cases hx) (fun v u q => ?_) (fun n u q => q)
  obtain ⟨r, rfl, h⟩ := xql_get q
  refine xJ.iload (o_Evaluator_store 13 rfl) rfl ?_
  refine xJ.lshl (o_Evaluator_store 14 rfl) rfl ?_
  refine xJ.lstore (o_Evaluator_store 15 rfl) (by decide) ?_
  replace h := h _ rfl
  refine xJ.aload_n (o_Evaluator_store 16 rfl) rfl ?_
  refine xJ.getfield (o_Evaluator_store 17 rfl) f_Evaluator_9 rfl rfl ?_
  refine xJ.iload_n (o_Evaluator_store 18 rfl) rfl ?_
  refine xJ.laload (o_Evaluator_store 19 rfl) rfl h.1 ?_
  replace h := h.2
  refine xJ.lload (o_Evaluator_store 20 rfl) rfl ?_
  refine xJ.ldc2 (v := (-1)) (o_Evaluator_store 21 rfl) k_Evaluator_67 ?_
  refine xJ.lxor (o_Evaluator_store 22 rfl) ?_
  refine xJ.land (o_Evaluator_store 23 rfl) ?_
  refine xJ.lload (o_Evaluator_store 24 rfl) rfl ?_
  refine xJ.iload (o_Evaluator_store 25 rfl) rfl ?_
  refine xJ.lshl (o_Evaluator_store 26 rfl) rfl ?_
  refine xJ.lor (o_Evaluator_store 27 rfl) ?_
  exact xJ.lreturn (o_Evaluator_store 28 rfl) rfl h
def wp_Evaluator_applied_40 (Q : xO → xS → Prop) (σ : xS) (a1 : Int32) (a2 : Int32) (a3 : Int32) : Prop :=
  (vp_in a3 80000 ∧ (∀ x1 : Int32, x1 = (xi σ 10 a3.toNatClampNeg) → ((a2 = 10 → (vp_in x1 2000 ∧ (vp_in a1 2000 ∧ Q (.inl (some (.long (jlushr (xl σ 41 x1.toNatClampNeg) (xi σ 11 a1.toNatClampNeg))))) σ))) ∧ (a2 = 11 → (vp_in x1 2000 ∧ Q (.inl (some (.long (xl σ 41 x1.toNatClampNeg)))) σ)) ∧ (a2 = 12 → (vp_in x1 2000 ∧ (vp_in x1 2000 ∧ wp_Words_signed (xql (fun r3 u2 => Q (.inl (some (.long r3))) u2) (fun n u => Q (.inr n) u)) σ (xl σ 41 x1.toNatClampNeg) (xi σ 8 x1.toNatClampNeg)))) ∧ (a2 = 13 ∨ a2 = 21 → (vp_in x1 2000 ∧ Q (.inl (some (.long ((xl σ 41 x1.toNatClampNeg) ^^^ (-1))))) σ)) ∧ (a2 = 14 ∨ a2 = 15 ∨ a2 = 16 ∨ a2 = 23 ∨ a2 = 24 ∨ a2 = 25 ∨ a2 = 26 ∨ a2 = 27 → wp_Evaluator_folded_40 (xql (fun r5 u4 => Q (.inl (some (.long r5))) u4) (fun n u => Q (.inr n) u)) σ a1 a2) ∧ (a2 = 17 → wp_Evaluator_implication_40 (xql (fun r7 u6 => Q (.inl (some (.long r7))) u6) (fun n u => Q (.inr n) u)) σ a1) ∧ (a2 = 18 → (vp_in x1 2000 ∧ (((lg_cmp (xl σ 41 x1.toNatClampNeg) 0) = 0 → (vp_in (a3 + 2) 80000 ∧ (vp_in (xi σ 10 (a3 + 2).toNatClampNeg) 2000 ∧ Q (.inl (some (.long (xl σ 41 (xi σ 10 (a3 + 2).toNatClampNeg).toNatClampNeg)))) σ))) ∧ (¬ (lg_cmp (xl σ 41 x1.toNatClampNeg) 0) = 0 → (vp_in (a3 + 1) 80000 ∧ (vp_in (xi σ 10 (a3 + 1).toNatClampNeg) 2000 ∧ Q (.inl (some (.long (xl σ 41 (xi σ 10 (a3 + 1).toNatClampNeg).toNatClampNeg)))) σ)))))) ∧ (a2 = 19 → wp_Evaluator_isAllSame_40 (xqi (fun r9 u8 => ((r9 = 0 → Q (.inl (some (.long 0))) u8) ∧ (¬ r9 = 0 → Q (.inl (some (.long 1))) u8))) (fun n u => Q (.inr n) u)) σ a1) ∧ (a2 = 20 → wp_Evaluator_isAllOther_40 (xqi (fun r11 u10 => ((r11 = 0 → Q (.inl (some (.long 0))) u10) ∧ (¬ r11 = 0 → Q (.inl (some (.long 1))) u10))) (fun n u => Q (.inr n) u)) σ a1) ∧ (a2 = 22 → (vp_in x1 2000 ∧ Q (.inl (some (.long (-(xl σ 41 x1.toNatClampNeg))))) σ)) ∧ (a2 = 36 ∨ a2 = 37 ∨ a2 = 38 ∨ a2 = 39 ∨ a2 = 40 ∨ a2 = 41 ∨ a2 = 42 ∨ a2 = 43 → (vp_in x1 2000 ∧ (vp_in (a3 + 1) 80000 ∧ (vp_in (xi σ 10 (a3 + 1).toNatClampNeg) 2000 ∧ (vp_in x1 2000 ∧ wp_Words_compare (xqi (fun r13 u12 => ((r13 = 0 → Q (.inl (some (.long 0))) u12) ∧ (¬ r13 = 0 → Q (.inl (some (.long 1))) u12))) (fun n u => Q (.inr n) u)) σ a2 (xl σ 41 x1.toNatClampNeg) (xl σ 41 (xi σ 10 (a3 + 1).toNatClampNeg).toNatClampNeg) (xi σ 8 x1.toNatClampNeg)))))) ∧ (a2 = 44 → wp_Evaluator_concat_40 (xql (fun r15 u14 => Q (.inl (some (.long r15))) u14) (fun n u => Q (.inr n) u)) σ a1) ∧ (a2 = 45 → (vp_in x1 2000 ∧ (vp_in x1 2000 ∧ (vp_in (a3 + 1) 80000 ∧ (vp_in (xi σ 10 (a3 + 1).toNatClampNeg) 2000 ∧ wp_Sorts_cell (xql (fun r17 u16 => Q (.inl (some (.long r17))) u16) (fun n u => Q (.inr n) u)) σ (xi σ 8 x1.toNatClampNeg) (xl σ 41 x1.toNatClampNeg) (xl σ 41 (xi σ 10 (a3 + 1).toNatClampNeg).toNatClampNeg)))))) ∧ (a2 = 46 → (vp_in (a3 + 1) 80000 ∧ (vp_in (xi σ 10 (a3 + 1).toNatClampNeg) 2000 ∧ (vp_in (a3 + 2) 80000 ∧ (vp_in (xi σ 10 (a3 + 2).toNatClampNeg) 2000 ∧ wp_Evaluator_store_40 (xql (fun r19 u18 => Q (.inl (some (.long r19))) u18) (fun n u => Q (.inr n) u)) σ x1 (xl σ 41 (xi σ 10 (a3 + 1).toNatClampNeg).toNatClampNeg) (xl σ 41 (xi σ 10 (a3 + 2).toNatClampNeg).toNatClampNeg)))))) ∧ (¬ a2 = 10 ∧ ¬ a2 = 11 ∧ ¬ a2 = 12 ∧ ¬ a2 = 13 ∧ ¬ a2 = 14 ∧ ¬ a2 = 15 ∧ ¬ a2 = 16 ∧ ¬ a2 = 17 ∧ ¬ a2 = 18 ∧ ¬ a2 = 19 ∧ ¬ a2 = 20 ∧ ¬ a2 = 21 ∧ ¬ a2 = 22 ∧ ¬ a2 = 23 ∧ ¬ a2 = 24 ∧ ¬ a2 = 25 ∧ ¬ a2 = 26 ∧ ¬ a2 = 27 ∧ ¬ a2 = 36 ∧ ¬ a2 = 37 ∧ ¬ a2 = 38 ∧ ¬ a2 = 39 ∧ ¬ a2 = 40 ∧ ¬ a2 = 41 ∧ ¬ a2 = 42 ∧ ¬ a2 = 43 ∧ ¬ a2 = 44 ∧ ¬ a2 = 45 ∧ ¬ a2 = 46 → (vp_in x1 2000 ∧ (vp_in (a3 + 1) 80000 ∧ (vp_in (xi σ 10 (a3 + 1).toNatClampNeg) 2000 ∧ (vp_in x1 2000 ∧ wp_Words_two (xql (fun r21 u20 => Q (.inl (some (.long r21))) u20) (fun n u => Q (.inr n) u)) σ a2 (xl σ 41 x1.toNatClampNeg) (xl σ 41 (xi σ 10 (a3 + 1).toNatClampNeg).toNatClampNeg) (xi σ 8 x1.toNatClampNeg)))))))))
set_option maxRecDepth 20000 in
theorem s_Evaluator_applied_40 {γ : xG1} {d : Nat} {Q : xO → xS → Prop} {σ : xS} {a1 : Int32} {a2 : Int32} {a3 : Int32} (h : wp_Evaluator_applied_40 Q σ a1 a2 a3) : xM (SHP, γ) Y_Evaluator_applied (d + 2) [.ref 40, .int a1, .int a2, .int a3] σ Q := by
  refine xM.of (by decide) (Nat.le_of_ble_eq_true rfl) ?_
  refine xJ.aload_n (o_Evaluator_applied 0 rfl) rfl ?_
  refine xJ.getfield (o_Evaluator_applied 1 rfl) f_Evaluator_25 rfl rfl ?_
  refine xJ.getfield (o_Evaluator_applied 2 rfl) f_Evaluator_64 rfl rfl ?_
  refine xJ.iload_n (o_Evaluator_applied 3 rfl) rfl ?_
  refine xJ.iaload (o_Evaluator_applied 4 rfl) rfl h.1 ?_
  replace h := h.2
  refine xJ.istore (o_Evaluator_applied 5 rfl) (by decide) ?_
  replace h := h _ rfl
  refine xJ.iload_n (o_Evaluator_applied 6 rfl) rfl ?_
  refine xJ.tsw (o_Evaluator_applied 7 rfl) (by decide) (sc_Evaluator_applied_12 (fun z => ?_) (fun z => ?_) (fun z => ?_) (fun z => ?_) (fun z => ?_) (fun z => ?_) (fun z => ?_) (fun z => ?_) (fun z => ?_) (fun z => ?_) (fun z => ?_) (fun z => ?_) (fun z => ?_) (fun z => ?_) (fun z => ?_))
  · replace h := h.1 z
    refine xJ.aload_n (o_Evaluator_applied 72 rfl) rfl ?_
    refine xJ.getfield (o_Evaluator_applied 73 rfl) f_Evaluator_9 rfl rfl ?_
    refine xJ.iload (o_Evaluator_applied 74 rfl) rfl ?_
    refine xJ.laload (o_Evaluator_applied 75 rfl) rfl h.1 ?_
    replace h := h.2
    refine xJ.aload_n (o_Evaluator_applied 76 rfl) rfl ?_
    refine xJ.getfield (o_Evaluator_applied 77 rfl) f_Evaluator_25 rfl rfl ?_
    refine xJ.getfield (o_Evaluator_applied 78 rfl) f_Evaluator_87 rfl rfl ?_
    refine xJ.iload_n (o_Evaluator_applied 79 rfl) rfl ?_
    refine xJ.iaload (o_Evaluator_applied 80 rfl) rfl h.1 ?_
    replace h := h.2
    refine xJ.lushr (o_Evaluator_applied 81 rfl) rfl ?_
    exact xJ.lreturn (o_Evaluator_applied 82 rfl) rfl h
  · replace h := h.2.1 z
    refine xJ.aload_n (o_Evaluator_applied 83 rfl) rfl ?_
    refine xJ.getfield (o_Evaluator_applied 84 rfl) f_Evaluator_9 rfl rfl ?_
    refine xJ.iload (o_Evaluator_applied 85 rfl) rfl ?_
    refine xJ.laload (o_Evaluator_applied 86 rfl) rfl h.1 ?_
    replace h := h.2
    exact xJ.lreturn (o_Evaluator_applied 87 rfl) rfl h
  · replace h := h.2.2.1 z
    refine xJ.aload_n (o_Evaluator_applied 88 rfl) rfl ?_
    refine xJ.getfield (o_Evaluator_applied 89 rfl) f_Evaluator_9 rfl rfl ?_
    refine xJ.iload (o_Evaluator_applied 90 rfl) rfl ?_
    refine xJ.laload (o_Evaluator_applied 91 rfl) rfl h.1 ?_
    replace h := h.2
    refine xJ.aload_n (o_Evaluator_applied 92 rfl) rfl ?_
    refine xJ.getfield (o_Evaluator_applied 93 rfl) f_Evaluator_25 rfl rfl ?_
    refine xJ.getfield (o_Evaluator_applied 94 rfl) f_Evaluator_90 rfl rfl ?_
    refine xJ.iload (o_Evaluator_applied 95 rfl) rfl ?_
    refine xJ.iaload (o_Evaluator_applied 96 rfl) rfl h.1 ?_
    replace h := h.2
    refine xJ.callS (Y' := Y_Words_signed) (o_Evaluator_applied 97 rfl) m_Evaluator_93 y_Words_signed st_Words_signed (s_Words_signed h) rfl rfl (Nat.le_of_ble_eq_true rfl) (fun _ hx => by cases hx) (fun v u q => ?_) (fun n u q => q)
    obtain ⟨r, rfl, h⟩ := xql_get q
    exact xJ.lreturn (o_Evaluator_applied 98 rfl) rfl h
  · replace h := h.2.2.2.1 z
    refine xJ.aload_n (o_Evaluator_applied 8 rfl) rfl ?_
    refine xJ.getfield (o_Evaluator_applied 9 rfl) f_Evaluator_9 rfl rfl ?_
    refine xJ.iload (o_Evaluator_applied 10 rfl) rfl ?_
    refine xJ.laload (o_Evaluator_applied 11 rfl) rfl h.1 ?_
    replace h := h.2
    refine xJ.ldc2 (v := (-1)) (o_Evaluator_applied 12 rfl) k_Evaluator_67 ?_
    refine xJ.lxor (o_Evaluator_applied 13 rfl) ?_
    exact xJ.lreturn (o_Evaluator_applied 14 rfl) rfl h
  · replace h := h.2.2.2.2.1 z
    refine xJ.aload_n (o_Evaluator_applied 63 rfl) rfl ?_
    refine xJ.iload_n (o_Evaluator_applied 64 rfl) rfl ?_
    refine xJ.iload_n (o_Evaluator_applied 65 rfl) rfl ?_
    refine xJ.callV (Y' := Y_Evaluator_folded) (o_Evaluator_applied 66 rfl) m_Evaluator_80 y_Evaluator_folded im_Evaluator_folded se_Evaluator_folded rfl rfl (s_Evaluator_folded_40 h) rfl rfl (Nat.le_of_ble_eq_true rfl) (fun _ hx => by cases hx) (fun v u q => ?_) (fun n u q => q)
    obtain ⟨r, rfl, h⟩ := xql_get q
    exact xJ.lreturn (o_Evaluator_applied 67 rfl) rfl h
  · replace h := h.2.2.2.2.2.1 z
    refine xJ.aload_n (o_Evaluator_applied 43 rfl) rfl ?_
    refine xJ.iload_n (o_Evaluator_applied 44 rfl) rfl ?_
    refine xJ.callV (Y' := Y_Evaluator_implication) (o_Evaluator_applied 45 rfl) m_Evaluator_69 y_Evaluator_implication im_Evaluator_implication se_Evaluator_implication rfl rfl (s_Evaluator_implication_40 h) rfl rfl (Nat.le_of_ble_eq_true rfl) (fun _ hx => by cases hx) (fun v u q => ?_) (fun n u q => q)
    obtain ⟨r, rfl, h⟩ := xql_get q
    exact xJ.lreturn (o_Evaluator_applied 46 rfl) rfl h
  · replace h := h.2.2.2.2.2.2.1 z
    refine xJ.aload_n (o_Evaluator_applied 21 rfl) rfl ?_
    refine xJ.getfield (o_Evaluator_applied 22 rfl) f_Evaluator_9 rfl rfl ?_
    refine xJ.aload_n (o_Evaluator_applied 23 rfl) rfl ?_
    refine xJ.getfield (o_Evaluator_applied 24 rfl) f_Evaluator_25 rfl rfl ?_
    refine xJ.getfield (o_Evaluator_applied 25 rfl) f_Evaluator_64 rfl rfl ?_
    refine xJ.aload_n (o_Evaluator_applied 26 rfl) rfl ?_
    refine xJ.getfield (o_Evaluator_applied 27 rfl) f_Evaluator_9 rfl rfl ?_
    refine xJ.iload (o_Evaluator_applied 28 rfl) rfl ?_
    refine xJ.laload (o_Evaluator_applied 29 rfl) rfl h.1 ?_
    replace h := h.2
    refine xJ.lconst (v := 0) (o_Evaluator_applied 30 rfl) (by decide) ?_
    refine xJ.lcmp (o_Evaluator_applied 31 rfl) ?_
    refine xJ.if_eq (tgt := 226) (o_Evaluator_applied 32 rfl) (by decide) (fun z => ?_) (fun z => ?_)
    · replace h := h.1 z
      refine xJ.iload_n (o_Evaluator_applied 37 rfl) rfl ?_
      refine xJ.iconst (v := 2) (o_Evaluator_applied 38 rfl) (by decide) ?_
      refine xJ.iadd (o_Evaluator_applied 39 rfl) ?_
      refine xJ.iaload (o_Evaluator_applied 40 rfl) rfl h.1 ?_
      replace h := h.2
      refine xJ.laload (o_Evaluator_applied 41 rfl) rfl h.1 ?_
      replace h := h.2
      exact xJ.lreturn (o_Evaluator_applied 42 rfl) rfl h
    · replace h := h.2 z
      refine xJ.iload_n (o_Evaluator_applied 33 rfl) rfl ?_
      refine xJ.iconst (v := 1) (o_Evaluator_applied 34 rfl) (by decide) ?_
      refine xJ.iadd (o_Evaluator_applied 35 rfl) ?_
      refine xJ.goto (tgt := 229) (o_Evaluator_applied 36 rfl) (by decide) ?_
      refine xJ.iaload (o_Evaluator_applied 40 rfl) rfl h.1 ?_
      replace h := h.2
      refine xJ.laload (o_Evaluator_applied 41 rfl) rfl h.1 ?_
      replace h := h.2
      exact xJ.lreturn (o_Evaluator_applied 42 rfl) rfl h
  · replace h := h.2.2.2.2.2.2.2.1 z
    refine xJ.aload_n (o_Evaluator_applied 47 rfl) rfl ?_
    refine xJ.iload_n (o_Evaluator_applied 48 rfl) rfl ?_
    refine xJ.callV (Y' := Y_Evaluator_isAllSame) (o_Evaluator_applied 49 rfl) m_Evaluator_73 y_Evaluator_isAllSame im_Evaluator_isAllSame se_Evaluator_isAllSame rfl rfl (s_Evaluator_isAllSame_40 h) rfl rfl (Nat.le_of_ble_eq_true rfl) (fun _ hx => by cases hx) (fun v u q => ?_) (fun n u q => q)
    obtain ⟨r, rfl, h⟩ := xqi_get q
    refine xJ.if_eq (tgt := 250) (o_Evaluator_applied 50 rfl) (by decide) (fun z => ?_) (fun z => ?_)
    · replace h := h.1 z
      refine xJ.lconst (v := 0) (o_Evaluator_applied 53 rfl) (by decide) ?_
      exact xJ.lreturn (o_Evaluator_applied 54 rfl) rfl h
    · replace h := h.2 z
      refine xJ.lconst (v := 1) (o_Evaluator_applied 51 rfl) (by decide) ?_
      refine xJ.goto (tgt := 251) (o_Evaluator_applied 52 rfl) (by decide) ?_
      exact xJ.lreturn (o_Evaluator_applied 54 rfl) rfl h
  · replace h := h.2.2.2.2.2.2.2.2.1 z
    refine xJ.aload_n (o_Evaluator_applied 55 rfl) rfl ?_
    refine xJ.iload_n (o_Evaluator_applied 56 rfl) rfl ?_
    refine xJ.callV (Y' := Y_Evaluator_isAllOther) (o_Evaluator_applied 57 rfl) m_Evaluator_77 y_Evaluator_isAllOther im_Evaluator_isAllOther se_Evaluator_isAllOther rfl rfl (s_Evaluator_isAllOther_40 h) rfl rfl (Nat.le_of_ble_eq_true rfl) (fun _ hx => by cases hx) (fun v u q => ?_) (fun n u q => q)
    obtain ⟨r, rfl, h⟩ := xqi_get q
    refine xJ.if_eq (tgt := 264) (o_Evaluator_applied 58 rfl) (by decide) (fun z => ?_) (fun z => ?_)
    · replace h := h.1 z
      refine xJ.lconst (v := 0) (o_Evaluator_applied 61 rfl) (by decide) ?_
      exact xJ.lreturn (o_Evaluator_applied 62 rfl) rfl h
    · replace h := h.2 z
      refine xJ.lconst (v := 1) (o_Evaluator_applied 59 rfl) (by decide) ?_
      refine xJ.goto (tgt := 265) (o_Evaluator_applied 60 rfl) (by decide) ?_
      exact xJ.lreturn (o_Evaluator_applied 62 rfl) rfl h
  · replace h := h.2.2.2.2.2.2.2.2.2.1 z
    refine xJ.aload_n (o_Evaluator_applied 15 rfl) rfl ?_
    refine xJ.getfield (o_Evaluator_applied 16 rfl) f_Evaluator_9 rfl rfl ?_
    refine xJ.iload (o_Evaluator_applied 17 rfl) rfl ?_
    refine xJ.laload (o_Evaluator_applied 18 rfl) rfl h.1 ?_
    replace h := h.2
    refine xJ.lneg (o_Evaluator_applied 19 rfl) ?_
    exact xJ.lreturn (o_Evaluator_applied 20 rfl) rfl h
  · replace h := h.2.2.2.2.2.2.2.2.2.2.1 z
    refine xJ.iload_n (o_Evaluator_applied 144 rfl) rfl ?_
    refine xJ.aload_n (o_Evaluator_applied 145 rfl) rfl ?_
    refine xJ.getfield (o_Evaluator_applied 146 rfl) f_Evaluator_9 rfl rfl ?_
    refine xJ.iload (o_Evaluator_applied 147 rfl) rfl ?_
    refine xJ.laload (o_Evaluator_applied 148 rfl) rfl h.1 ?_
    replace h := h.2
    refine xJ.aload_n (o_Evaluator_applied 149 rfl) rfl ?_
    refine xJ.getfield (o_Evaluator_applied 150 rfl) f_Evaluator_9 rfl rfl ?_
    refine xJ.aload_n (o_Evaluator_applied 151 rfl) rfl ?_
    refine xJ.getfield (o_Evaluator_applied 152 rfl) f_Evaluator_25 rfl rfl ?_
    refine xJ.getfield (o_Evaluator_applied 153 rfl) f_Evaluator_64 rfl rfl ?_
    refine xJ.iload_n (o_Evaluator_applied 154 rfl) rfl ?_
    refine xJ.iconst (v := 1) (o_Evaluator_applied 155 rfl) (by decide) ?_
    refine xJ.iadd (o_Evaluator_applied 156 rfl) ?_
    refine xJ.iaload (o_Evaluator_applied 157 rfl) rfl h.1 ?_
    replace h := h.2
    refine xJ.laload (o_Evaluator_applied 158 rfl) rfl h.1 ?_
    replace h := h.2
    refine xJ.aload_n (o_Evaluator_applied 159 rfl) rfl ?_
    refine xJ.getfield (o_Evaluator_applied 160 rfl) f_Evaluator_25 rfl rfl ?_
    refine xJ.getfield (o_Evaluator_applied 161 rfl) f_Evaluator_90 rfl rfl ?_
    refine xJ.iload (o_Evaluator_applied 162 rfl) rfl ?_
    refine xJ.iaload (o_Evaluator_applied 163 rfl) rfl h.1 ?_
    replace h := h.2
    refine xJ.callS (Y' := Y_Words_compare) (o_Evaluator_applied 164 rfl) m_Evaluator_108 y_Words_compare st_Words_compare (s_Words_compare h) rfl rfl (Nat.le_of_ble_eq_true rfl) (fun _ hx => by cases hx) (fun v u q => ?_) (fun n u q => q)
    obtain ⟨r, rfl, h⟩ := xqi_get q
    refine xJ.if_eq (tgt := 446) (o_Evaluator_applied 165 rfl) (by decide) (fun z => ?_) (fun z => ?_)
    · replace h := h.1 z
      refine xJ.lconst (v := 0) (o_Evaluator_applied 168 rfl) (by decide) ?_
      exact xJ.lreturn (o_Evaluator_applied 169 rfl) rfl h
    · replace h := h.2 z
      refine xJ.lconst (v := 1) (o_Evaluator_applied 166 rfl) (by decide) ?_
      refine xJ.goto (tgt := 447) (o_Evaluator_applied 167 rfl) (by decide) ?_
      exact xJ.lreturn (o_Evaluator_applied 169 rfl) rfl h
  · replace h := h.2.2.2.2.2.2.2.2.2.2.2.1 z
    refine xJ.aload_n (o_Evaluator_applied 68 rfl) rfl ?_
    refine xJ.iload_n (o_Evaluator_applied 69 rfl) rfl ?_
    refine xJ.callV (Y' := Y_Evaluator_concat) (o_Evaluator_applied 70 rfl) m_Evaluator_84 y_Evaluator_concat im_Evaluator_concat se_Evaluator_concat rfl rfl (s_Evaluator_concat_40 h) rfl rfl (Nat.le_of_ble_eq_true rfl) (fun _ hx => by cases hx) (fun v u q => ?_) (fun n u q => q)
    obtain ⟨r, rfl, h⟩ := xql_get q
    exact xJ.lreturn (o_Evaluator_applied 71 rfl) rfl h
  · replace h := h.2.2.2.2.2.2.2.2.2.2.2.2.1 z
    refine xJ.aload_n (o_Evaluator_applied 99 rfl) rfl ?_
    refine xJ.getfield (o_Evaluator_applied 100 rfl) f_Evaluator_25 rfl rfl ?_
    refine xJ.getfield (o_Evaluator_applied 101 rfl) f_Evaluator_90 rfl rfl ?_
    refine xJ.iload (o_Evaluator_applied 102 rfl) rfl ?_
    refine xJ.iaload (o_Evaluator_applied 103 rfl) rfl h.1 ?_
    replace h := h.2
    refine xJ.aload_n (o_Evaluator_applied 104 rfl) rfl ?_
    refine xJ.getfield (o_Evaluator_applied 105 rfl) f_Evaluator_9 rfl rfl ?_
    refine xJ.iload (o_Evaluator_applied 106 rfl) rfl ?_
    refine xJ.laload (o_Evaluator_applied 107 rfl) rfl h.1 ?_
    replace h := h.2
    refine xJ.aload_n (o_Evaluator_applied 108 rfl) rfl ?_
    refine xJ.getfield (o_Evaluator_applied 109 rfl) f_Evaluator_9 rfl rfl ?_
    refine xJ.aload_n (o_Evaluator_applied 110 rfl) rfl ?_
    refine xJ.getfield (o_Evaluator_applied 111 rfl) f_Evaluator_25 rfl rfl ?_
    refine xJ.getfield (o_Evaluator_applied 112 rfl) f_Evaluator_64 rfl rfl ?_
    refine xJ.iload_n (o_Evaluator_applied 113 rfl) rfl ?_
    refine xJ.iconst (v := 1) (o_Evaluator_applied 114 rfl) (by decide) ?_
    refine xJ.iadd (o_Evaluator_applied 115 rfl) ?_
    refine xJ.iaload (o_Evaluator_applied 116 rfl) rfl h.1 ?_
    replace h := h.2
    refine xJ.laload (o_Evaluator_applied 117 rfl) rfl h.1 ?_
    replace h := h.2
    refine xJ.callS (Y' := Y_Sorts_cell) (o_Evaluator_applied 118 rfl) m_Evaluator_99 y_Sorts_cell st_Sorts_cell (s_Sorts_cell h) rfl rfl (Nat.le_of_ble_eq_true rfl) (fun _ hx => by cases hx) (fun v u q => ?_) (fun n u q => q)
    obtain ⟨r, rfl, h⟩ := xql_get q
    exact xJ.lreturn (o_Evaluator_applied 119 rfl) rfl h
  · replace h := h.2.2.2.2.2.2.2.2.2.2.2.2.2.1 z
    refine xJ.aload_n (o_Evaluator_applied 120 rfl) rfl ?_
    refine xJ.iload (o_Evaluator_applied 121 rfl) rfl ?_
    refine xJ.aload_n (o_Evaluator_applied 122 rfl) rfl ?_
    refine xJ.getfield (o_Evaluator_applied 123 rfl) f_Evaluator_9 rfl rfl ?_
    refine xJ.aload_n (o_Evaluator_applied 124 rfl) rfl ?_
    refine xJ.getfield (o_Evaluator_applied 125 rfl) f_Evaluator_25 rfl rfl ?_
    refine xJ.getfield (o_Evaluator_applied 126 rfl) f_Evaluator_64 rfl rfl ?_
    refine xJ.iload_n (o_Evaluator_applied 127 rfl) rfl ?_
    refine xJ.iconst (v := 1) (o_Evaluator_applied 128 rfl) (by decide) ?_
    refine xJ.iadd (o_Evaluator_applied 129 rfl) ?_
    refine xJ.iaload (o_Evaluator_applied 130 rfl) rfl h.1 ?_
    replace h := h.2
    refine xJ.laload (o_Evaluator_applied 131 rfl) rfl h.1 ?_
    replace h := h.2
    refine xJ.aload_n (o_Evaluator_applied 132 rfl) rfl ?_
    refine xJ.getfield (o_Evaluator_applied 133 rfl) f_Evaluator_9 rfl rfl ?_
    refine xJ.aload_n (o_Evaluator_applied 134 rfl) rfl ?_
    refine xJ.getfield (o_Evaluator_applied 135 rfl) f_Evaluator_25 rfl rfl ?_
    refine xJ.getfield (o_Evaluator_applied 136 rfl) f_Evaluator_64 rfl rfl ?_
    refine xJ.iload_n (o_Evaluator_applied 137 rfl) rfl ?_
    refine xJ.iconst (v := 2) (o_Evaluator_applied 138 rfl) (by decide) ?_
    refine xJ.iadd (o_Evaluator_applied 139 rfl) ?_
    refine xJ.iaload (o_Evaluator_applied 140 rfl) rfl h.1 ?_
    replace h := h.2
    refine xJ.laload (o_Evaluator_applied 141 rfl) rfl h.1 ?_
    replace h := h.2
    refine xJ.callV (Y' := Y_Evaluator_store) (o_Evaluator_applied 142 rfl) m_Evaluator_105 y_Evaluator_store im_Evaluator_store se_Evaluator_store rfl rfl (s_Evaluator_store_40 h) rfl rfl (Nat.le_of_ble_eq_true rfl) (fun _ hx => by cases hx) (fun v u q => ?_) (fun n u q => q)
    obtain ⟨r, rfl, h⟩ := xql_get q
    exact xJ.lreturn (o_Evaluator_applied 143 rfl) rfl h
  · replace h := h.2.2.2.2.2.2.2.2.2.2.2.2.2.2 z
    refine xJ.iload_n (o_Evaluator_applied 170 rfl) rfl ?_
    refine xJ.aload_n (o_Evaluator_applied 171 rfl) rfl ?_
    refine xJ.getfield (o_Evaluator_applied 172 rfl) f_Evaluator_9 rfl rfl ?_
    refine xJ.iload (o_Evaluator_applied 173 rfl) rfl ?_
    refine xJ.laload (o_Evaluator_applied 174 rfl) rfl h.1 ?_
    replace h := h.2
    refine xJ.aload_n (o_Evaluator_applied 175 rfl) rfl ?_
    refine xJ.getfield (o_Evaluator_applied 176 rfl) f_Evaluator_9 rfl rfl ?_
    refine xJ.aload_n (o_Evaluator_applied 177 rfl) rfl ?_
    refine xJ.getfield (o_Evaluator_applied 178 rfl) f_Evaluator_25 rfl rfl ?_
    refine xJ.getfield (o_Evaluator_applied 179 rfl) f_Evaluator_64 rfl rfl ?_
    refine xJ.iload_n (o_Evaluator_applied 180 rfl) rfl ?_
    refine xJ.iconst (v := 1) (o_Evaluator_applied 181 rfl) (by decide) ?_
    refine xJ.iadd (o_Evaluator_applied 182 rfl) ?_
    refine xJ.iaload (o_Evaluator_applied 183 rfl) rfl h.1 ?_
    replace h := h.2
    refine xJ.laload (o_Evaluator_applied 184 rfl) rfl h.1 ?_
    replace h := h.2
    refine xJ.aload_n (o_Evaluator_applied 185 rfl) rfl ?_
    refine xJ.getfield (o_Evaluator_applied 186 rfl) f_Evaluator_25 rfl rfl ?_
    refine xJ.getfield (o_Evaluator_applied 187 rfl) f_Evaluator_90 rfl rfl ?_
    refine xJ.iload (o_Evaluator_applied 188 rfl) rfl ?_
    refine xJ.iaload (o_Evaluator_applied 189 rfl) rfl h.1 ?_
    replace h := h.2
    refine xJ.callS (Y' := Y_Words_two) (o_Evaluator_applied 190 rfl) m_Evaluator_112 y_Words_two st_Words_two (s_Words_two h) rfl rfl (Nat.le_of_ble_eq_true rfl) (fun _ hx => by cases hx) (fun v u q => ?_) (fun n u q => q)
    obtain ⟨r, rfl, h⟩ := xql_get q
    exact xJ.lreturn (o_Evaluator_applied 191 rfl) rfl h
def wp_Evaluator_workOut_40 (Q : xO → xS → Prop) (σ : xS) (a1 : Int32) : Prop :=
  (vp_in a1 2000 ∧ (∀ x1 : Int32, x1 = (xi σ 7 a1.toNatClampNeg) → ((¬ x1 = 48 → ((x1 = 47 → Q (.inl none) σ) ∧ (¬ x1 = 47 → (vp_in a1 2001 ∧ wp_Evaluator_applied_40 (xql (fun r3 u2 => (vp_in a1 2000 ∧ (vp_in a1 2000 ∧ (∀ s4 : xS, s4 = xpl u2 41 a1.toNatClampNeg (r3 &&& (xl u2 13 a1.toNatClampNeg)) → Q (.inl none) s4)))) (fun n u => Q (.inr n) u)) σ a1 x1 (xi σ 9 a1.toNatClampNeg))))) ∧ (x1 = 48 → (vp_in a1 2000 ∧ (vp_in a1 2000 ∧ (∀ s5 : xS, s5 = xpl σ 41 a1.toNatClampNeg (xl σ 12 a1.toNatClampNeg) → Q (.inl none) s5)))))))
set_option maxRecDepth 20000 in
theorem s_Evaluator_workOut_40 {γ : xG1} {d : Nat} {Q : xO → xS → Prop} {σ : xS} {a1 : Int32} (h : wp_Evaluator_workOut_40 Q σ a1) : xM (SHP, γ) Y_Evaluator_workOut (d + 3) [.ref 40, .int a1] σ Q := by
  refine xM.of (by decide) (Nat.le_of_ble_eq_true rfl) ?_
  refine xJ.aload_n (o_Evaluator_workOut 0 rfl) rfl ?_
  refine xJ.getfield (o_Evaluator_workOut 1 rfl) f_Evaluator_25 rfl rfl ?_
  refine xJ.getfield (o_Evaluator_workOut 2 rfl) f_Evaluator_51 rfl rfl ?_
  refine xJ.iload_n (o_Evaluator_workOut 3 rfl) rfl ?_
  refine xJ.iaload (o_Evaluator_workOut 4 rfl) rfl h.1 ?_
  replace h := h.2
  refine xJ.istore_n (o_Evaluator_workOut 5 rfl) (by decide) ?_
  replace h := h _ rfl
  refine xJ.iload_n (o_Evaluator_workOut 6 rfl) rfl ?_
  refine xJ.bipush (v := 48) (o_Evaluator_workOut 7 rfl) (by decide) ?_
  refine xJ.icmp_ne (tgt := 34) (o_Evaluator_workOut 8 rfl) (by decide) (fun z => ?_) (fun z => ?_)
  · replace h := h.1 z
    refine xJ.iload_n (o_Evaluator_workOut 19 rfl) rfl ?_
    refine xJ.bipush (v := 47) (o_Evaluator_workOut 20 rfl) (by decide) ?_
    refine xJ.icmp_eq (tgt := 71) (o_Evaluator_workOut 21 rfl) (by decide) (fun z => ?_) (fun z => ?_)
    · replace h := h.1 z
      exact xJ.return_ (o_Evaluator_workOut 41 rfl) rfl h
    · replace h := h.2 z
      refine xJ.aload_n (o_Evaluator_workOut 22 rfl) rfl ?_
      refine xJ.getfield (o_Evaluator_workOut 23 rfl) f_Evaluator_9 rfl rfl ?_
      refine xJ.iload_n (o_Evaluator_workOut 24 rfl) rfl ?_
      refine xJ.aload_n (o_Evaluator_workOut 25 rfl) rfl ?_
      refine xJ.iload_n (o_Evaluator_workOut 26 rfl) rfl ?_
      refine xJ.iload_n (o_Evaluator_workOut 27 rfl) rfl ?_
      refine xJ.aload_n (o_Evaluator_workOut 28 rfl) rfl ?_
      refine xJ.getfield (o_Evaluator_workOut 29 rfl) f_Evaluator_25 rfl rfl ?_
      refine xJ.getfield (o_Evaluator_workOut 30 rfl) f_Evaluator_57 rfl rfl ?_
      refine xJ.iload_n (o_Evaluator_workOut 31 rfl) rfl ?_
      refine xJ.iaload (o_Evaluator_workOut 32 rfl) rfl h.1 ?_
      replace h := h.2
      refine xJ.callV (Y' := Y_Evaluator_applied) (o_Evaluator_workOut 33 rfl) m_Evaluator_60 y_Evaluator_applied im_Evaluator_applied se_Evaluator_applied rfl rfl (s_Evaluator_applied_40 h) rfl rfl (Nat.le_of_ble_eq_true rfl) (fun _ hx => by cases hx) (fun v u q => ?_) (fun n u q => q)
      obtain ⟨r, rfl, h⟩ := xql_get q
      refine xJ.aload_n (o_Evaluator_workOut 34 rfl) rfl ?_
      refine xJ.getfield (o_Evaluator_workOut 35 rfl) f_Evaluator_25 rfl rfl ?_
      refine xJ.getfield (o_Evaluator_workOut 36 rfl) f_Evaluator_46 rfl rfl ?_
      refine xJ.iload_n (o_Evaluator_workOut 37 rfl) rfl ?_
      refine xJ.laload (o_Evaluator_workOut 38 rfl) rfl h.1 ?_
      replace h := h.2
      refine xJ.land (o_Evaluator_workOut 39 rfl) ?_
      refine xJ.lastore (o_Evaluator_workOut 40 rfl) rfl h.1 ?_
      replace h := h.2
      replace h := h _ rfl
      exact xJ.return_ (o_Evaluator_workOut 41 rfl) rfl h
  · replace h := h.2 z
    refine xJ.aload_n (o_Evaluator_workOut 9 rfl) rfl ?_
    refine xJ.getfield (o_Evaluator_workOut 10 rfl) f_Evaluator_9 rfl rfl ?_
    refine xJ.iload_n (o_Evaluator_workOut 11 rfl) rfl ?_
    refine xJ.aload_n (o_Evaluator_workOut 12 rfl) rfl ?_
    refine xJ.getfield (o_Evaluator_workOut 13 rfl) f_Evaluator_25 rfl rfl ?_
    refine xJ.getfield (o_Evaluator_workOut 14 rfl) f_Evaluator_54 rfl rfl ?_
    refine xJ.iload_n (o_Evaluator_workOut 15 rfl) rfl ?_
    refine xJ.laload (o_Evaluator_workOut 16 rfl) rfl h.1 ?_
    replace h := h.2
    refine xJ.lastore (o_Evaluator_workOut 17 rfl) rfl h.1 ?_
    replace h := h.2
    replace h := h _ rfl
    refine xJ.goto (tgt := 71) (o_Evaluator_workOut 18 rfl) (by decide) ?_
    exact xJ.return_ (o_Evaluator_workOut 41 rfl) rfl h
def w_Evaluator_takeThings_40_2 (Q : xO → xS → Prop) : Nat → Int32 → Int32 → Int32 → xS → Prop
  | 0 => fun _ _ _ _ => False
  | n + 1 => fun a1 a2 a3 σ =>
    (((xi σ 5 8) ≤ a3 → Q (.inl none) σ) ∧ (¬ (xi σ 5 8) ≤ a3 → (vp_in a3 500 ∧ (∀ x1 : Int32, x1 = (xi σ 19 a3.toNatClampNeg) → wp_Book_shift (xqi (fun r3 u2 => (vp_in x1 2000 ∧ (vp_in x1 2000 ∧ (∀ s4 : xS, s4 = xpl u2 41 x1.toNatClampNeg (((jiushr a1 r3).toInt64) &&& (xl u2 13 x1.toNatClampNeg)) → (∀ x5 : Int32, x5 = a3 + 1 → w_Evaluator_takeThings_40_2 Q n a1 a2 x5 s4))))) (fun n u => Q (.inr n) u)) σ a3 a2))))
def wp_Evaluator_takeThings_40 (Q : xO → xS → Prop) (σ : xS) (a1 : Int32) (a2 : Int32) : Prop :=
  ∃ m, w_Evaluator_takeThings_40_2 Q m a1 a2 0 σ
set_option maxRecDepth 20000 in
theorem sw_Evaluator_takeThings_40_2 {γ : xG1} {d b0 : Nat} {Q : xO → xS → Prop} : ∀ (n : Nat) (a1 : Int32) (a2 : Int32) (a3 : Int32) (σ : xS), w_Evaluator_takeThings_40_2 Q n a1 a2 a3 σ → xJ (SHP, γ) Y_Evaluator_takeThings (d + 1) b0 2 [(0, .ref 40), (1, .int a1), (2, .int a2), (3, .int a3)] [] σ Q := by
  intro n
  induction n with
  | zero => intro a1 a2 a3 σ h; exact h.elim
  | succ n ih =>
    intro a1 a2 a3 σ h
    refine xJ.iload_n (o_Evaluator_takeThings 2 rfl) rfl ?_
    refine xJ.aload_n (o_Evaluator_takeThings 3 rfl) rfl ?_
    refine xJ.getfield (o_Evaluator_takeThings 4 rfl) f_Evaluator_15 rfl rfl ?_
    refine xJ.getfield (o_Evaluator_takeThings 5 rfl) f_Evaluator_34 rfl rfl ?_
    refine xJ.icmp_ge (tgt := 60) (o_Evaluator_takeThings 6 rfl) (by decide) (fun z => ?_) (fun z => ?_)
    · replace h := h.1 z
      exact xJ.return_ (o_Evaluator_takeThings 33 rfl) rfl h
    · replace h := h.2 z
      refine xJ.aload_n (o_Evaluator_takeThings 7 rfl) rfl ?_
      refine xJ.getfield (o_Evaluator_takeThings 8 rfl) f_Evaluator_15 rfl rfl ?_
      refine xJ.getfield (o_Evaluator_takeThings 9 rfl) f_Evaluator_38 rfl rfl ?_
      refine xJ.iload_n (o_Evaluator_takeThings 10 rfl) rfl ?_
      refine xJ.iaload (o_Evaluator_takeThings 11 rfl) rfl h.1 ?_
      replace h := h.2
      refine xJ.istore (o_Evaluator_takeThings 12 rfl) (by decide) ?_
      replace h := h _ rfl
      refine xJ.aload_n (o_Evaluator_takeThings 13 rfl) rfl ?_
      refine xJ.getfield (o_Evaluator_takeThings 14 rfl) f_Evaluator_9 rfl rfl ?_
      refine xJ.iload (o_Evaluator_takeThings 15 rfl) rfl ?_
      refine xJ.iload_n (o_Evaluator_takeThings 16 rfl) rfl ?_
      refine xJ.aload_n (o_Evaluator_takeThings 17 rfl) rfl ?_
      refine xJ.getfield (o_Evaluator_takeThings 18 rfl) f_Evaluator_15 rfl rfl ?_
      refine xJ.iload_n (o_Evaluator_takeThings 19 rfl) rfl ?_
      refine xJ.iload_n (o_Evaluator_takeThings 20 rfl) rfl ?_
      refine xJ.callV (Y' := Y_Book_shift) (o_Evaluator_takeThings 21 rfl) m_Evaluator_42 y_Book_shift im_Book_shift se_Book_shift rfl rfl (s_Book_shift h) rfl rfl (Nat.le_of_ble_eq_true rfl) (fun _ hx => by cases hx) (fun v u q => ?_) (fun n u q => q)
      obtain ⟨r, rfl, h⟩ := xqi_get q
      refine xJ.iushr (o_Evaluator_takeThings 22 rfl) rfl ?_
      refine xJ.i2l (o_Evaluator_takeThings 23 rfl) rfl ?_
      refine xJ.aload_n (o_Evaluator_takeThings 24 rfl) rfl ?_
      refine xJ.getfield (o_Evaluator_takeThings 25 rfl) f_Evaluator_25 rfl rfl ?_
      refine xJ.getfield (o_Evaluator_takeThings 26 rfl) f_Evaluator_46 rfl rfl ?_
      refine xJ.iload (o_Evaluator_takeThings 27 rfl) rfl ?_
      refine xJ.laload (o_Evaluator_takeThings 28 rfl) rfl h.1 ?_
      replace h := h.2
      refine xJ.land (o_Evaluator_takeThings 29 rfl) ?_
      refine xJ.lastore (o_Evaluator_takeThings 30 rfl) rfl h.1 ?_
      replace h := h.2
      replace h := h _ rfl
      refine xJ.iincC (w := 1) (o_Evaluator_takeThings 31 rfl) rfl (by decide) (by decide) ?_
      replace h := h _ rfl
      refine xJ.goto (tgt := 2) (o_Evaluator_takeThings 32 rfl) (by decide) ?_
      exact xJ.lvs (by exact ⟨rfl, rfl, rfl, rfl, trivial⟩) (ih _ _ _ _ h)
set_option maxRecDepth 20000 in
theorem s_Evaluator_takeThings_40 {γ : xG1} {d : Nat} {Q : xO → xS → Prop} {σ : xS} {a1 : Int32} {a2 : Int32} (h : wp_Evaluator_takeThings_40 Q σ a1 a2) : xM (SHP, γ) Y_Evaluator_takeThings (d + 1) [.ref 40, .int a1, .int a2] σ Q := by
  refine xM.of (by decide) (Nat.le_of_ble_eq_true rfl) ?_
  refine xJ.iconst (v := 0) (o_Evaluator_takeThings 0 rfl) (by decide) ?_
  refine xJ.istore_n (o_Evaluator_takeThings 1 rfl) (by decide) ?_
  obtain ⟨m, h⟩ := h
  exact xJ.lvs (by exact ⟨rfl, rfl, rfl, rfl, trivial⟩) (sw_Evaluator_takeThings_40_2 m _ _ _ _ h)
