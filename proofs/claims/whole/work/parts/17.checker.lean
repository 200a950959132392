def wp_Checker_learn (Q : xO → xS → Prop) (σ : xS) (a1 : Int32) (a2 : Int64) (a4 : Int64) : Prop :=
  (vp_in a1 2000 ∧ (∀ s1 : xS, s1 = xpl σ 45 a1.toNatClampNeg a2 → (vp_in a1 2000 ∧ (∀ s2 : xS, s2 = xpl s1 46 a1.toNatClampNeg (a4 &&& a2) → Q (.inl none) s2))))
set_option maxRecDepth 20000 in
theorem s_Checker_learn {γ : xG1} {d : Nat} {Q : xO → xS → Prop} {σ : xS} {a1 : Int32} {a2 : Int64} {a4 : Int64} (h : wp_Checker_learn Q σ a1 a2 a4) : xM (SHP, γ) Y_Checker_learn (d + 0) [.ref 44, .int a1, .long a2, .long a4] σ Q := by
  refine xM.of (by decide) (Nat.le_of_ble_eq_true rfl) ?_
  refine xJ.aload_n (o_Checker_learn 0 rfl) rfl ?_
  refine xJ.getfield (o_Checker_learn 1 rfl) f_Checker_9 rfl rfl ?_
  refine xJ.iload_n (o_Checker_learn 2 rfl) rfl ?_
  refine xJ.lload_n (o_Checker_learn 3 rfl) rfl ?_
  refine xJ.lastore (o_Checker_learn 4 rfl) rfl h.1 ?_
  replace h := h.2
  replace h := h _ rfl
  refine xJ.aload_n (o_Checker_learn 5 rfl) rfl ?_
  refine xJ.getfield (o_Checker_learn 6 rfl) f_Checker_15 rfl rfl ?_
  refine xJ.iload_n (o_Checker_learn 7 rfl) rfl ?_
  refine xJ.lload (o_Checker_learn 8 rfl) rfl ?_
  refine xJ.lload_n (o_Checker_learn 9 rfl) rfl ?_
  refine xJ.land (o_Checker_learn 10 rfl) ?_
  refine xJ.lastore (o_Checker_learn 11 rfl) rfl h.1 ?_
  replace h := h.2
  replace h := h _ rfl
  exact xJ.return_ (o_Checker_learn 12 rfl) rfl h
theorem sc_Checker_workOutOfOne_19 {x : Int32} {P : Nat → Prop} (k0 : x = 10 → P 76) (k1 : x = 11 → P 126) (k2 : x = 22 → P 52) (kd : ¬ x = 10 ∧ ¬ x = 11 ∧ ¬ x = 22 → P 170) : ∃ t : Nat, xdsl 19 151 #[(10, 57), (11, 107), (22, 33)] x = (t : Int) ∧ P t := by
  by_cases h0_0 : x = 10
  · subst h0_0; exact ⟨76, by decide, k0 (rfl)⟩
  by_cases h1_0 : x = 11
  · subst h1_0; exact ⟨126, by decide, k1 (rfl)⟩
  by_cases h2_0 : x = 22
  · subst h2_0; exact ⟨52, by decide, k2 (rfl)⟩
  have nh0_0 := lv_neT h0_0 (show (10 : Int32).toInt = 10 by decide)
  have nh1_0 := lv_neT h1_0 (show (11 : Int32).toInt = 11 by decide)
  have nh2_0 := lv_neT h2_0 (show (22 : Int32).toInt = 22 by decide)
  refine ⟨170, ?_, kd ⟨h0_0, h1_0, h2_0⟩⟩
  show (19 : Int) + Op.lookupswitch.offset [(10, 57), (11, 107), (22, 33)] 151 x.toInt = _
  rw [lv_osw h0_0 (show (10 : Int32).toInt = 10 by decide), lv_osw h1_0 (show (11 : Int32).toInt = 11 by decide), lv_osw h2_0 (show (22 : Int32).toInt = 22 by decide)]
  rfl
def wp_Checker_workOutOfOne (Q : xO → xS → Prop) (σ : xS) (a1 : Int32) (a2 : Int32) : Prop :=
  (vp_in a2 2000 ∧ (∀ x1 : Int32, x1 = (xi σ 8 a2.toNatClampNeg) → (vp_in a1 2000 ∧ (((xi σ 7 a1.toNatClampNeg) = 10 → (vp_in a2 2000 ∧ (vp_in a1 2000 ∧ (vp_in a1 2000 ∧ (vp_in a2 2000 ∧ (vp_in a1 2000 ∧ wp_Checker_learn (xqv (fun u2 => Q (.inl none) u2) (fun n u => Q (.inr n) u)) σ a1 ((jlushr (xl σ 45 a2.toNatClampNeg) (xi σ 11 a1.toNatClampNeg)) &&& (xl σ 13 a1.toNatClampNeg)) (jlushr (xl σ 46 a2.toNatClampNeg) (xi σ 11 a1.toNatClampNeg)))))))) ∧ ((xi σ 7 a1.toNatClampNeg) = 11 → (vp_in a2 2000 ∧ (vp_in a1 2000 ∧ (vp_in a2 2000 ∧ (vp_in a2 2000 ∧ wp_Checker_learn (xqv (fun u4 => Q (.inl none) u4) (fun n u => Q (.inr n) u)) σ a1 ((xl σ 45 a2.toNatClampNeg) ||| ((xl σ 13 a1.toNatClampNeg) &&& ((xl σ 13 a2.toNatClampNeg) ^^^ (-1)))) (xl σ 46 a2.toNatClampNeg)))))) ∧ ((xi σ 7 a1.toNatClampNeg) = 22 → (vp_in a2 2000 ∧ wp_Words_lowestRun (xql (fun r7 u6 => (vp_in a2 2000 ∧ wp_Checker_learn (xqv (fun u8 => Q (.inl none) u8) (fun n u => Q (.inr n) u)) u6 a1 r7 (-(xl u6 46 a2.toNatClampNeg)))) (fun n u => Q (.inr n) u)) σ (xl σ 45 a2.toNatClampNeg))) ∧ (¬ (xi σ 7 a1.toNatClampNeg) = 10 ∧ ¬ (xi σ 7 a1.toNatClampNeg) = 11 ∧ ¬ (xi σ 7 a1.toNatClampNeg) = 22 → (vp_in a2 2000 ∧ wp_Words_signed (xql (fun r11 u10 => (vp_in a1 2000 ∧ (vp_in a2 2000 ∧ wp_Words_signed (xql (fun r13 u12 => wp_Checker_learn (xqv (fun u14 => Q (.inl none) u14) (fun n u => Q (.inr n) u)) u12 a1 (r11 &&& (xl u10 13 a1.toNatClampNeg)) r13) (fun n u => Q (.inr n) u)) u10 (xl u10 46 a2.toNatClampNeg) x1))) (fun n u => Q (.inr n) u)) σ (xl σ 45 a2.toNatClampNeg) x1))))))
set_option maxRecDepth 20000 in
theorem s_Checker_workOutOfOne {γ : xG1} {d : Nat} {Q : xO → xS → Prop} {σ : xS} {a1 : Int32} {a2 : Int32} (h : wp_Checker_workOutOfOne Q σ a1 a2) : xM (SHP, γ) Y_Checker_workOutOfOne (d + 1) [.ref 44, .int a1, .int a2] σ Q := by
  refine xM.of (by decide) (Nat.le_of_ble_eq_true rfl) ?_
  refine xJ.aload_n (o_Checker_workOutOfOne 0 rfl) rfl ?_
  refine xJ.getfield (o_Checker_workOutOfOne 1 rfl) f_Checker_32 rfl rfl ?_
  refine xJ.getfield (o_Checker_workOutOfOne 2 rfl) f_Checker_167 rfl rfl ?_
  refine xJ.iload_n (o_Checker_workOutOfOne 3 rfl) rfl ?_
  refine xJ.iaload (o_Checker_workOutOfOne 4 rfl) rfl h.1 ?_
  replace h := h.2
  refine xJ.istore_n (o_Checker_workOutOfOne 5 rfl) (by decide) ?_
  replace h := h _ rfl
  refine xJ.aload_n (o_Checker_workOutOfOne 6 rfl) rfl ?_
  refine xJ.getfield (o_Checker_workOutOfOne 7 rfl) f_Checker_32 rfl rfl ?_
  refine xJ.getfield (o_Checker_workOutOfOne 8 rfl) f_Checker_68 rfl rfl ?_
  refine xJ.iload_n (o_Checker_workOutOfOne 9 rfl) rfl ?_
  refine xJ.iaload (o_Checker_workOutOfOne 10 rfl) rfl h.1 ?_
  replace h := h.2
  refine xJ.lsw (o_Checker_workOutOfOne 11 rfl) (by decide) (sc_Checker_workOutOfOne_19 (fun z => ?_) (fun z => ?_) (fun z => ?_) (fun z => ?_))
  · replace h := h.1 z
    refine xJ.aload_n (o_Checker_workOutOfOne 26 rfl) rfl ?_
    refine xJ.iload_n (o_Checker_workOutOfOne 27 rfl) rfl ?_
    refine xJ.aload_n (o_Checker_workOutOfOne 28 rfl) rfl ?_
    refine xJ.getfield (o_Checker_workOutOfOne 29 rfl) f_Checker_9 rfl rfl ?_
    refine xJ.iload_n (o_Checker_workOutOfOne 30 rfl) rfl ?_
    refine xJ.laload (o_Checker_workOutOfOne 31 rfl) rfl h.1 ?_
    replace h := h.2
    refine xJ.aload_n (o_Checker_workOutOfOne 32 rfl) rfl ?_
    refine xJ.getfield (o_Checker_workOutOfOne 33 rfl) f_Checker_32 rfl rfl ?_
    refine xJ.getfield (o_Checker_workOutOfOne 34 rfl) f_Checker_170 rfl rfl ?_
    refine xJ.iload_n (o_Checker_workOutOfOne 35 rfl) rfl ?_
    refine xJ.iaload (o_Checker_workOutOfOne 36 rfl) rfl h.1 ?_
    replace h := h.2
    refine xJ.lushr (o_Checker_workOutOfOne 37 rfl) rfl ?_
    refine xJ.aload_n (o_Checker_workOutOfOne 38 rfl) rfl ?_
    refine xJ.getfield (o_Checker_workOutOfOne 39 rfl) f_Checker_32 rfl rfl ?_
    refine xJ.getfield (o_Checker_workOutOfOne 40 rfl) f_Checker_45 rfl rfl ?_
    refine xJ.iload_n (o_Checker_workOutOfOne 41 rfl) rfl ?_
    refine xJ.laload (o_Checker_workOutOfOne 42 rfl) rfl h.1 ?_
    replace h := h.2
    refine xJ.land (o_Checker_workOutOfOne 43 rfl) ?_
    refine xJ.aload_n (o_Checker_workOutOfOne 44 rfl) rfl ?_
    refine xJ.getfield (o_Checker_workOutOfOne 45 rfl) f_Checker_15 rfl rfl ?_
    refine xJ.iload_n (o_Checker_workOutOfOne 46 rfl) rfl ?_
    refine xJ.laload (o_Checker_workOutOfOne 47 rfl) rfl h.1 ?_
    replace h := h.2
    refine xJ.aload_n (o_Checker_workOutOfOne 48 rfl) rfl ?_
    refine xJ.getfield (o_Checker_workOutOfOne 49 rfl) f_Checker_32 rfl rfl ?_
    refine xJ.getfield (o_Checker_workOutOfOne 50 rfl) f_Checker_170 rfl rfl ?_
    refine xJ.iload_n (o_Checker_workOutOfOne 51 rfl) rfl ?_
    refine xJ.iaload (o_Checker_workOutOfOne 52 rfl) rfl h.1 ?_
    replace h := h.2
    refine xJ.lushr (o_Checker_workOutOfOne 53 rfl) rfl ?_
    refine xJ.callV (Y' := Y_Checker_learn) (o_Checker_workOutOfOne 54 rfl) m_Checker_50 y_Checker_learn im_Checker_learn se_Checker_learn rfl rfl (s_Checker_learn h) rfl rfl (Nat.le_of_ble_eq_true rfl) (fun _ hx => by cases hx) (fun v u q => ?_) (fun n u q => q)
    obtain ⟨rfl, h⟩ := xqv_get q
    refine xJ.goto (tgt := 205) (o_Checker_workOutOfOne 55 rfl) (by decide) ?_
    exact xJ.return_ (o_Checker_workOutOfOne 103 rfl) rfl h
  · replace h := h.2.1 z
    refine xJ.aload_n (o_Checker_workOutOfOne 56 rfl) rfl ?_
    refine xJ.iload_n (o_Checker_workOutOfOne 57 rfl) rfl ?_
    refine xJ.aload_n (o_Checker_workOutOfOne 58 rfl) rfl ?_
    refine xJ.getfield (o_Checker_workOutOfOne 59 rfl) f_Checker_9 rfl rfl ?_
    refine xJ.iload_n (o_Checker_workOutOfOne 60 rfl) rfl ?_
    refine xJ.laload (o_Checker_workOutOfOne 61 rfl) rfl h.1 ?_
    replace h := h.2
    refine xJ.aload_n (o_Checker_workOutOfOne 62 rfl) rfl ?_
    refine xJ.getfield (o_Checker_workOutOfOne 63 rfl) f_Checker_32 rfl rfl ?_
    refine xJ.getfield (o_Checker_workOutOfOne 64 rfl) f_Checker_45 rfl rfl ?_
    refine xJ.iload_n (o_Checker_workOutOfOne 65 rfl) rfl ?_
    refine xJ.laload (o_Checker_workOutOfOne 66 rfl) rfl h.1 ?_
    replace h := h.2
    refine xJ.aload_n (o_Checker_workOutOfOne 67 rfl) rfl ?_
    refine xJ.getfield (o_Checker_workOutOfOne 68 rfl) f_Checker_32 rfl rfl ?_
    refine xJ.getfield (o_Checker_workOutOfOne 69 rfl) f_Checker_45 rfl rfl ?_
    refine xJ.iload_n (o_Checker_workOutOfOne 70 rfl) rfl ?_
    refine xJ.laload (o_Checker_workOutOfOne 71 rfl) rfl h.1 ?_
    replace h := h.2
    refine xJ.ldc2 (v := (-1)) (o_Checker_workOutOfOne 72 rfl) k_Checker_77 ?_
    refine xJ.lxor (o_Checker_workOutOfOne 73 rfl) ?_
    refine xJ.land (o_Checker_workOutOfOne 74 rfl) ?_
    refine xJ.lor (o_Checker_workOutOfOne 75 rfl) ?_
    refine xJ.aload_n (o_Checker_workOutOfOne 76 rfl) rfl ?_
    refine xJ.getfield (o_Checker_workOutOfOne 77 rfl) f_Checker_15 rfl rfl ?_
    refine xJ.iload_n (o_Checker_workOutOfOne 78 rfl) rfl ?_
    refine xJ.laload (o_Checker_workOutOfOne 79 rfl) rfl h.1 ?_
    replace h := h.2
    refine xJ.callV (Y' := Y_Checker_learn) (o_Checker_workOutOfOne 80 rfl) m_Checker_50 y_Checker_learn im_Checker_learn se_Checker_learn rfl rfl (s_Checker_learn h) rfl rfl (Nat.le_of_ble_eq_true rfl) (fun _ hx => by cases hx) (fun v u q => ?_) (fun n u q => q)
    obtain ⟨rfl, h⟩ := xqv_get q
    refine xJ.goto (tgt := 205) (o_Checker_workOutOfOne 81 rfl) (by decide) ?_
    exact xJ.return_ (o_Checker_workOutOfOne 103 rfl) rfl h
  · replace h := h.2.2.1 z
    refine xJ.aload_n (o_Checker_workOutOfOne 12 rfl) rfl ?_
    refine xJ.iload_n (o_Checker_workOutOfOne 13 rfl) rfl ?_
    refine xJ.aload_n (o_Checker_workOutOfOne 14 rfl) rfl ?_
    refine xJ.getfield (o_Checker_workOutOfOne 15 rfl) f_Checker_9 rfl rfl ?_
    refine xJ.iload_n (o_Checker_workOutOfOne 16 rfl) rfl ?_
    refine xJ.laload (o_Checker_workOutOfOne 17 rfl) rfl h.1 ?_
    replace h := h.2
    refine xJ.callS (Y' := Y_Words_lowestRun) (o_Checker_workOutOfOne 18 rfl) m_Checker_146 y_Words_lowestRun st_Words_lowestRun (s_Words_lowestRun h) rfl rfl (Nat.le_of_ble_eq_true rfl) (fun _ hx => by cases hx) (fun v u q => ?_) (fun n u q => q)
    obtain ⟨r, rfl, h⟩ := xql_get q
    refine xJ.aload_n (o_Checker_workOutOfOne 19 rfl) rfl ?_
    refine xJ.getfield (o_Checker_workOutOfOne 20 rfl) f_Checker_15 rfl rfl ?_
    refine xJ.iload_n (o_Checker_workOutOfOne 21 rfl) rfl ?_
    refine xJ.laload (o_Checker_workOutOfOne 22 rfl) rfl h.1 ?_
    replace h := h.2
    refine xJ.lneg (o_Checker_workOutOfOne 23 rfl) ?_
    refine xJ.callV (Y' := Y_Checker_learn) (o_Checker_workOutOfOne 24 rfl) m_Checker_50 y_Checker_learn im_Checker_learn se_Checker_learn rfl rfl (s_Checker_learn h) rfl rfl (Nat.le_of_ble_eq_true rfl) (fun _ hx => by cases hx) (fun v u q => ?_) (fun n u q => q)
    obtain ⟨rfl, h⟩ := xqv_get q
    refine xJ.goto (tgt := 205) (o_Checker_workOutOfOne 25 rfl) (by decide) ?_
    exact xJ.return_ (o_Checker_workOutOfOne 103 rfl) rfl h
  · replace h := h.2.2.2 z
    refine xJ.aload_n (o_Checker_workOutOfOne 82 rfl) rfl ?_
    refine xJ.iload_n (o_Checker_workOutOfOne 83 rfl) rfl ?_
    refine xJ.aload_n (o_Checker_workOutOfOne 84 rfl) rfl ?_
    refine xJ.getfield (o_Checker_workOutOfOne 85 rfl) f_Checker_9 rfl rfl ?_
    refine xJ.iload_n (o_Checker_workOutOfOne 86 rfl) rfl ?_
    refine xJ.laload (o_Checker_workOutOfOne 87 rfl) rfl h.1 ?_
    replace h := h.2
    refine xJ.iload_n (o_Checker_workOutOfOne 88 rfl) rfl ?_
    refine xJ.callS (Y' := Y_Words_signed) (o_Checker_workOutOfOne 89 rfl) m_Checker_173 y_Words_signed st_Words_signed (s_Words_signed h) rfl rfl (Nat.le_of_ble_eq_true rfl) (fun _ hx => by cases hx) (fun v u q => ?_) (fun n u q => q)
    obtain ⟨r, rfl, h⟩ := xql_get q
    refine xJ.aload_n (o_Checker_workOutOfOne 90 rfl) rfl ?_
    refine xJ.getfield (o_Checker_workOutOfOne 91 rfl) f_Checker_32 rfl rfl ?_
    refine xJ.getfield (o_Checker_workOutOfOne 92 rfl) f_Checker_45 rfl rfl ?_
    refine xJ.iload_n (o_Checker_workOutOfOne 93 rfl) rfl ?_
    refine xJ.laload (o_Checker_workOutOfOne 94 rfl) rfl h.1 ?_
    replace h := h.2
    refine xJ.land (o_Checker_workOutOfOne 95 rfl) ?_
    refine xJ.aload_n (o_Checker_workOutOfOne 96 rfl) rfl ?_
    refine xJ.getfield (o_Checker_workOutOfOne 97 rfl) f_Checker_15 rfl rfl ?_
    refine xJ.iload_n (o_Checker_workOutOfOne 98 rfl) rfl ?_
    refine xJ.laload (o_Checker_workOutOfOne 99 rfl) rfl h.1 ?_
    replace h := h.2
    refine xJ.iload_n (o_Checker_workOutOfOne 100 rfl) rfl ?_
    refine xJ.callS (Y' := Y_Words_signed) (o_Checker_workOutOfOne 101 rfl) m_Checker_173 y_Words_signed st_Words_signed (s_Words_signed h) rfl rfl (Nat.le_of_ble_eq_true rfl) (fun _ hx => by cases hx) (fun v u q => ?_) (fun n u q => q)
    obtain ⟨r, rfl, h⟩ := xql_get q
    refine xJ.callV (Y' := Y_Checker_learn) (o_Checker_workOutOfOne 102 rfl) m_Checker_50 y_Checker_learn im_Checker_learn se_Checker_learn rfl rfl (s_Checker_learn h) rfl rfl (Nat.le_of_ble_eq_true rfl) (fun _ hx => by cases hx) (fun v u q => ?_) (fun n u q => q)
    obtain ⟨rfl, h⟩ := xqv_get q
    exact xJ.return_ (o_Checker_workOutOfOne 103 rfl) rfl h
def w_Checker_workOutAnd_24 (Q : xO → xS → Prop) : Nat → Int32 → Int64 → Int64 → Int32 → xS → Prop
  | 0 => fun _ _ _ _ _ => False
  | n + 1 => fun a1 a2 a4 a6 σ =>
    (vp_in (a1 + 1) 2001 ∧ (((xi σ 9 (a1 + 1).toNatClampNeg) ≤ a6 → wp_Checker_learn (xqv (fun u3 => Q (.inl none) u3) (fun n u => Q (.inr n) u)) σ a1 (a2 ||| a4) a2) ∧ (¬ (xi σ 9 (a1 + 1).toNatClampNeg) ≤ a6 → (vp_in a6 80000 ∧ (∀ x5 : Int32, x5 = (xi σ 10 a6.toNatClampNeg) → (vp_in x5 2000 ∧ (∀ x6 : Int64, x6 = (a2 &&& (xl σ 46 x5.toNatClampNeg)) → (vp_in x5 2000 ∧ (vp_in x5 2000 ∧ (∀ x7 : Int64, x7 = (a4 ||| ((xl σ 45 x5.toNatClampNeg) &&& ((xl σ 46 x5.toNatClampNeg) ^^^ (-1)))) → (∀ x8 : Int32, x8 = a6 + 1 → w_Checker_workOutAnd_24 Q n a1 x6 x7 x8 σ)))))))))))
def wp_Checker_workOutAnd (Q : xO → xS → Prop) (σ : xS) (a1 : Int32) : Prop :=
  (vp_in a1 2000 ∧ (∀ x1 : Int64, x1 = (xl σ 13 a1.toNatClampNeg) → (vp_in a1 2001 ∧ (∀ x2 : Int32, x2 = (xi σ 9 a1.toNatClampNeg) → ∃ m, w_Checker_workOutAnd_24 Q m a1 x1 0 x2 σ))))
set_option maxRecDepth 20000 in
theorem sw_Checker_workOutAnd_24 {γ : xG1} {d b0 : Nat} {Q : xO → xS → Prop} : ∀ (n : Nat) (a1 : Int32) (a2 : Int64) (a4 : Int64) (a6 : Int32) (σ : xS), w_Checker_workOutAnd_24 Q n a1 a2 a4 a6 σ → xJ (SHP, γ) Y_Checker_workOutAnd (d + 1) b0 24 [(0, .ref 44), (1, .int a1), (2, .long a2), (4, .long a4), (6, .int a6)] [] σ Q := by
  intro n
  induction n with
  | zero => intro a1 a2 a4 a6 σ h; exact h.elim
  | succ n ih =>
    intro a1 a2 a4 a6 σ h
    refine xJ.iload (o_Checker_workOutAnd 14 rfl) rfl ?_
    refine xJ.aload_n (o_Checker_workOutAnd 15 rfl) rfl ?_
    refine xJ.getfield (o_Checker_workOutAnd 16 rfl) f_Checker_32 rfl rfl ?_
    refine xJ.getfield (o_Checker_workOutAnd 17 rfl) f_Checker_61 rfl rfl ?_
    refine xJ.iload_n (o_Checker_workOutAnd 18 rfl) rfl ?_
    refine xJ.iconst (v := 1) (o_Checker_workOutAnd 19 rfl) (by decide) ?_
    refine xJ.iadd (o_Checker_workOutAnd 20 rfl) ?_
    refine xJ.iaload (o_Checker_workOutAnd 21 rfl) rfl h.1 ?_
    replace h := h.2
    refine xJ.icmp_ge (tgt := 92) (o_Checker_workOutAnd 22 rfl) (by decide) (fun z => ?_) (fun z => ?_)
    · replace h := h.1 z
      refine xJ.aload_n (o_Checker_workOutAnd 52 rfl) rfl ?_
      refine xJ.iload_n (o_Checker_workOutAnd 53 rfl) rfl ?_
      refine xJ.lload_n (o_Checker_workOutAnd 54 rfl) rfl ?_
      refine xJ.lload (o_Checker_workOutAnd 55 rfl) rfl ?_
      refine xJ.lor (o_Checker_workOutAnd 56 rfl) ?_
      refine xJ.lload_n (o_Checker_workOutAnd 57 rfl) rfl ?_
      refine xJ.callV (Y' := Y_Checker_learn) (o_Checker_workOutAnd 58 rfl) m_Checker_50 y_Checker_learn im_Checker_learn se_Checker_learn rfl rfl (s_Checker_learn h) rfl rfl (Nat.le_of_ble_eq_true rfl) (fun _ hx => by cases hx) (fun v u q => ?_) (fun n u q => q)
      obtain ⟨rfl, h⟩ := xqv_get q
      exact xJ.return_ (o_Checker_workOutAnd 59 rfl) rfl h
    · replace h := h.2 z
      refine xJ.aload_n (o_Checker_workOutAnd 23 rfl) rfl ?_
      refine xJ.getfield (o_Checker_workOutAnd 24 rfl) f_Checker_32 rfl rfl ?_
      refine xJ.getfield (o_Checker_workOutAnd 25 rfl) f_Checker_74 rfl rfl ?_
      refine xJ.iload (o_Checker_workOutAnd 26 rfl) rfl ?_
      refine xJ.iaload (o_Checker_workOutAnd 27 rfl) rfl h.1 ?_
      replace h := h.2
      refine xJ.istore (o_Checker_workOutAnd 28 rfl) (by decide) ?_
      replace h := h _ rfl
      refine xJ.lload_n (o_Checker_workOutAnd 29 rfl) rfl ?_
      refine xJ.aload_n (o_Checker_workOutAnd 30 rfl) rfl ?_
      refine xJ.getfield (o_Checker_workOutAnd 31 rfl) f_Checker_15 rfl rfl ?_
      refine xJ.iload (o_Checker_workOutAnd 32 rfl) rfl ?_
      refine xJ.laload (o_Checker_workOutAnd 33 rfl) rfl h.1 ?_
      replace h := h.2
      refine xJ.land (o_Checker_workOutAnd 34 rfl) ?_
      refine xJ.lstore_n (o_Checker_workOutAnd 35 rfl) (by decide) ?_
      replace h := h _ rfl
      refine xJ.lload (o_Checker_workOutAnd 36 rfl) rfl ?_
      refine xJ.aload_n (o_Checker_workOutAnd 37 rfl) rfl ?_
      refine xJ.getfield (o_Checker_workOutAnd 38 rfl) f_Checker_9 rfl rfl ?_
      refine xJ.iload (o_Checker_workOutAnd 39 rfl) rfl ?_
      refine xJ.laload (o_Checker_workOutAnd 40 rfl) rfl h.1 ?_
      replace h := h.2
      refine xJ.aload_n (o_Checker_workOutAnd 41 rfl) rfl ?_
      refine xJ.getfield (o_Checker_workOutAnd 42 rfl) f_Checker_15 rfl rfl ?_
      refine xJ.iload (o_Checker_workOutAnd 43 rfl) rfl ?_
      refine xJ.laload (o_Checker_workOutAnd 44 rfl) rfl h.1 ?_
      replace h := h.2
      refine xJ.ldc2 (v := (-1)) (o_Checker_workOutAnd 45 rfl) k_Checker_77 ?_
      refine xJ.lxor (o_Checker_workOutAnd 46 rfl) ?_
      refine xJ.land (o_Checker_workOutAnd 47 rfl) ?_
      refine xJ.lor (o_Checker_workOutAnd 48 rfl) ?_
      refine xJ.lstore (o_Checker_workOutAnd 49 rfl) (by decide) ?_
      replace h := h _ rfl
      refine xJ.iincC (w := 1) (o_Checker_workOutAnd 50 rfl) rfl (by decide) (by decide) ?_
      replace h := h _ rfl
      refine xJ.goto (tgt := 24) (o_Checker_workOutAnd 51 rfl) (by decide) ?_
      exact xJ.lvs (by exact ⟨rfl, rfl, rfl, rfl, rfl, trivial⟩) (ih _ _ _ _ _ h)
set_option maxRecDepth 20000 in
theorem s_Checker_workOutAnd {γ : xG1} {d : Nat} {Q : xO → xS → Prop} {σ : xS} {a1 : Int32} (h : wp_Checker_workOutAnd Q σ a1) : xM (SHP, γ) Y_Checker_workOutAnd (d + 1) [.ref 44, .int a1] σ Q := by
  refine xM.of (by decide) (Nat.le_of_ble_eq_true rfl) ?_
  refine xJ.aload_n (o_Checker_workOutAnd 0 rfl) rfl ?_
  refine xJ.getfield (o_Checker_workOutAnd 1 rfl) f_Checker_32 rfl rfl ?_
  refine xJ.getfield (o_Checker_workOutAnd 2 rfl) f_Checker_45 rfl rfl ?_
  refine xJ.iload_n (o_Checker_workOutAnd 3 rfl) rfl ?_
  refine xJ.laload (o_Checker_workOutAnd 4 rfl) rfl h.1 ?_
  replace h := h.2
  refine xJ.lstore_n (o_Checker_workOutAnd 5 rfl) (by decide) ?_
  replace h := h _ rfl
  refine xJ.lconst (v := 0) (o_Checker_workOutAnd 6 rfl) (by decide) ?_
  refine xJ.lstore (o_Checker_workOutAnd 7 rfl) (by decide) ?_
  refine xJ.aload_n (o_Checker_workOutAnd 8 rfl) rfl ?_
  refine xJ.getfield (o_Checker_workOutAnd 9 rfl) f_Checker_32 rfl rfl ?_
  refine xJ.getfield (o_Checker_workOutAnd 10 rfl) f_Checker_61 rfl rfl ?_
  refine xJ.iload_n (o_Checker_workOutAnd 11 rfl) rfl ?_
  refine xJ.iaload (o_Checker_workOutAnd 12 rfl) rfl h.1 ?_
  replace h := h.2
  refine xJ.istore (o_Checker_workOutAnd 13 rfl) (by decide) ?_
  replace h := h _ rfl
  obtain ⟨m, h⟩ := h
  exact xJ.lvs (by exact ⟨rfl, rfl, rfl, rfl, rfl, trivial⟩) (sw_Checker_workOutAnd_24 m _ _ _ _ _ h)
def w_Checker_workOutOr_80 (Q : xO → xS → Prop) (K39 : Int32 → Int32 → Int64 → Int64 → Int32 → Int32 → xS → Prop) (a1 : Int32) (a2 : Int32) (a3 : Int64) (a5 : Int64) (a7 : Int32) (a8 : Int32) (a9 : Int32) (t0 : Int64) (σ : xS) : Prop :=
  (vp_in a9 2000 ∧ (∀ x7 : Int64, x7 = (a3 ||| ((xl σ 46 a9.toNatClampNeg) ^^^ t0)) → (vp_in a9 2000 ∧ (vp_in a9 2000 ∧ (∀ x8 : Int64, x8 = (a5 &&& ((xl σ 45 a9.toNatClampNeg) &&& (((xl σ 46 a9.toNatClampNeg) ^^^ t0) ^^^ (-1)))) → (∀ x9 : Int32, x9 = a8 + 1 → K39 a1 a2 x7 x8 a7 x9 σ))))))
def w_Checker_workOutOr_79 (Q : xO → xS → Prop) (K39 : Int32 → Int32 → Int64 → Int64 → Int32 → Int32 → xS → Prop) (a1 : Int32) (a2 : Int32) (a3 : Int64) (a5 : Int64) (a7 : Int32) (a8 : Int32) (a9 : Int32) (σ : xS) : Prop :=
  w_Checker_workOutOr_80 Q K39 a1 a2 a3 a5 a7 a8 a9 0 σ
def w_Checker_workOutOr_39 (Q : xO → xS → Prop) : Nat → Int32 → Int32 → Int64 → Int64 → Int32 → Int32 → xS → Prop
  | 0 => fun _ _ _ _ _ _ _ => False
  | n + 1 => fun a1 a2 a3 a5 a7 a8 σ =>
    ((a7 < a8 → wp_Checker_learn (xqv (fun u4 => Q (.inl none) u4) (fun n u => Q (.inr n) u)) σ a1 (a3 ||| a5) a3) ∧ (¬ a7 < a8 → (vp_in a8 80000 ∧ (∀ x6 : Int32, x6 = (xi σ 10 a8.toNatClampNeg) → ((a2 = 0 → w_Checker_workOutOr_79 Q (w_Checker_workOutOr_39 Q n) a1 a2 a3 a5 a7 a8 x6 σ) ∧ (¬ a2 = 0 → ((a7 ≤ a8 → w_Checker_workOutOr_79 Q (w_Checker_workOutOr_39 Q n) a1 a2 a3 a5 a7 a8 x6 σ) ∧ (¬ a7 ≤ a8 → (vp_in x6 2000 ∧ w_Checker_workOutOr_80 Q (w_Checker_workOutOr_39 Q n) a1 a2 a3 a5 a7 a8 x6 (xl σ 45 x6.toNatClampNeg) σ)))))))))
def wp_Checker_workOutOr (Q : xO → xS → Prop) (σ : xS) (a1 : Int32) (a2 : Int32) : Prop :=
  (vp_in a1 2000 ∧ (∀ x1 : Int64, x1 = (xl σ 13 a1.toNatClampNeg) → (vp_in (a1 + 1) 2001 ∧ (∀ x2 : Int32, x2 = ((xi σ 9 (a1 + 1).toNatClampNeg) - 1) → (vp_in a1 2001 ∧ (∀ x3 : Int32, x3 = (xi σ 9 a1.toNatClampNeg) → ∃ m, w_Checker_workOutOr_39 Q m a1 a2 0 x1 x2 x3 σ))))))
set_option maxRecDepth 20000 in
theorem sw_Checker_workOutOr_80 {γ : xG1} {d b0 : Nat} {Q : xO → xS → Prop} {K39 : Int32 → Int32 → Int64 → Int64 → Int32 → Int32 → xS → Prop} (hK39 : ∀ a1 a2 a3 a5 a7 a8 σ, K39 a1 a2 a3 a5 a7 a8 σ → xJ (SHP, γ) Y_Checker_workOutOr (d + 1) b0 39 [(0, .ref 44), (1, .int a1), (2, .int a2), (3, .long a3), (5, .long a5), (7, .int a7), (8, .int a8)] [] σ Q) {a1 : Int32} {a2 : Int32} {a3 : Int64} {a5 : Int64} {a7 : Int32} {a8 : Int32} {a9 : Int32} {t0 : Int64} {σ : xS} (h : w_Checker_workOutOr_80 Q K39 a1 a2 a3 a5 a7 a8 a9 t0 σ) : xJ (SHP, γ) Y_Checker_workOutOr (d + 1) b0 80 [(0, .ref 44), (1, .int a1), (2, .int a2), (3, .long a3), (5, .long a5), (7, .int a7), (8, .int a8), (9, .int a9)] [.long t0] σ Q := by
  refine xJ.lstore (o_Checker_workOutOr 44 rfl) (by decide) ?_
  refine xJ.lload_n (o_Checker_workOutOr 45 rfl) rfl ?_
  refine xJ.aload_n (o_Checker_workOutOr 46 rfl) rfl ?_
  refine xJ.getfield (o_Checker_workOutOr 47 rfl) f_Checker_15 rfl rfl ?_
  refine xJ.iload (o_Checker_workOutOr 48 rfl) rfl ?_
  refine xJ.laload (o_Checker_workOutOr 49 rfl) rfl h.1 ?_
  replace h := h.2
  refine xJ.lload (o_Checker_workOutOr 50 rfl) rfl ?_
  refine xJ.lxor (o_Checker_workOutOr 51 rfl) ?_
  refine xJ.lor (o_Checker_workOutOr 52 rfl) ?_
  refine xJ.lstore_n (o_Checker_workOutOr 53 rfl) (by decide) ?_
  replace h := h _ rfl
  refine xJ.lload (o_Checker_workOutOr 54 rfl) rfl ?_
  refine xJ.aload_n (o_Checker_workOutOr 55 rfl) rfl ?_
  refine xJ.getfield (o_Checker_workOutOr 56 rfl) f_Checker_9 rfl rfl ?_
  refine xJ.iload (o_Checker_workOutOr 57 rfl) rfl ?_
  refine xJ.laload (o_Checker_workOutOr 58 rfl) rfl h.1 ?_
  replace h := h.2
  refine xJ.aload_n (o_Checker_workOutOr 59 rfl) rfl ?_
  refine xJ.getfield (o_Checker_workOutOr 60 rfl) f_Checker_15 rfl rfl ?_
  refine xJ.iload (o_Checker_workOutOr 61 rfl) rfl ?_
  refine xJ.laload (o_Checker_workOutOr 62 rfl) rfl h.1 ?_
  replace h := h.2
  refine xJ.lload (o_Checker_workOutOr 63 rfl) rfl ?_
  refine xJ.lxor (o_Checker_workOutOr 64 rfl) ?_
  refine xJ.ldc2 (v := (-1)) (o_Checker_workOutOr 65 rfl) k_Checker_77 ?_
  refine xJ.lxor (o_Checker_workOutOr 66 rfl) ?_
  refine xJ.land (o_Checker_workOutOr 67 rfl) ?_
  refine xJ.land (o_Checker_workOutOr 68 rfl) ?_
  refine xJ.lstore (o_Checker_workOutOr 69 rfl) (by decide) ?_
  replace h := h _ rfl
  refine xJ.iincC (w := 1) (o_Checker_workOutOr 70 rfl) rfl (by decide) (by decide) ?_
  replace h := h _ rfl
  refine xJ.goto (tgt := 39) (o_Checker_workOutOr 71 rfl) (by decide) ?_
  exact xJ.lvs (by exact ⟨rfl, rfl, rfl, rfl, rfl, rfl, rfl, trivial⟩) (hK39 _ _ _ _ _ _ _ h)
set_option maxRecDepth 20000 in
theorem sw_Checker_workOutOr_79 {γ : xG1} {d b0 : Nat} {Q : xO → xS → Prop} {K39 : Int32 → Int32 → Int64 → Int64 → Int32 → Int32 → xS → Prop} (hK39 : ∀ a1 a2 a3 a5 a7 a8 σ, K39 a1 a2 a3 a5 a7 a8 σ → xJ (SHP, γ) Y_Checker_workOutOr (d + 1) b0 39 [(0, .ref 44), (1, .int a1), (2, .int a2), (3, .long a3), (5, .long a5), (7, .int a7), (8, .int a8)] [] σ Q) {a1 : Int32} {a2 : Int32} {a3 : Int64} {a5 : Int64} {a7 : Int32} {a8 : Int32} {a9 : Int32} {σ : xS} (h : w_Checker_workOutOr_79 Q K39 a1 a2 a3 a5 a7 a8 a9 σ) : xJ (SHP, γ) Y_Checker_workOutOr (d + 1) b0 79 [(0, .ref 44), (1, .int a1), (2, .int a2), (3, .long a3), (5, .long a5), (7, .int a7), (8, .int a8), (9, .int a9)] [] σ Q := by
  refine xJ.lconst (v := 0) (o_Checker_workOutOr 43 rfl) (by decide) ?_
  exact xJ.lvs (by exact ⟨rfl, rfl, rfl, rfl, rfl, rfl, rfl, rfl, trivial⟩) (sw_Checker_workOutOr_80 hK39 h)
set_option maxRecDepth 20000 in
theorem sw_Checker_workOutOr_39 {γ : xG1} {d b0 : Nat} {Q : xO → xS → Prop} : ∀ (n : Nat) (a1 : Int32) (a2 : Int32) (a3 : Int64) (a5 : Int64) (a7 : Int32) (a8 : Int32) (σ : xS), w_Checker_workOutOr_39 Q n a1 a2 a3 a5 a7 a8 σ → xJ (SHP, γ) Y_Checker_workOutOr (d + 1) b0 39 [(0, .ref 44), (1, .int a1), (2, .int a2), (3, .long a3), (5, .long a5), (7, .int a7), (8, .int a8)] [] σ Q := by
  intro n
  induction n with
  | zero => intro a1 a2 a3 a5 a7 a8 σ h; exact h.elim
  | succ n ih =>
    intro a1 a2 a3 a5 a7 a8 σ h
    refine xJ.iload (o_Checker_workOutOr 24 rfl) rfl ?_
    refine xJ.iload (o_Checker_workOutOr 25 rfl) rfl ?_
    refine xJ.icmp_gt (tgt := 128) (o_Checker_workOutOr 26 rfl) (by decide) (fun z => ?_) (fun z => ?_)
    · replace h := h.1 z
      refine xJ.aload_n (o_Checker_workOutOr 72 rfl) rfl ?_
      refine xJ.iload_n (o_Checker_workOutOr 73 rfl) rfl ?_
      refine xJ.lload_n (o_Checker_workOutOr 74 rfl) rfl ?_
      refine xJ.lload (o_Checker_workOutOr 75 rfl) rfl ?_
      refine xJ.lor (o_Checker_workOutOr 76 rfl) ?_
      refine xJ.lload_n (o_Checker_workOutOr 77 rfl) rfl ?_
      refine xJ.callV (Y' := Y_Checker_learn) (o_Checker_workOutOr 78 rfl) m_Checker_50 y_Checker_learn im_Checker_learn se_Checker_learn rfl rfl (s_Checker_learn h) rfl rfl (Nat.le_of_ble_eq_true rfl) (fun _ hx => by cases hx) (fun v u q => ?_) (fun n u q => q)
      obtain ⟨rfl, h⟩ := xqv_get q
      exact xJ.return_ (o_Checker_workOutOr 79 rfl) rfl h
    · replace h := h.2 z
      refine xJ.aload_n (o_Checker_workOutOr 27 rfl) rfl ?_
      refine xJ.getfield (o_Checker_workOutOr 28 rfl) f_Checker_32 rfl rfl ?_
      refine xJ.getfield (o_Checker_workOutOr 29 rfl) f_Checker_74 rfl rfl ?_
      refine xJ.iload (o_Checker_workOutOr 30 rfl) rfl ?_
      refine xJ.iaload (o_Checker_workOutOr 31 rfl) rfl h.1 ?_
      replace h := h.2
      refine xJ.istore (o_Checker_workOutOr 32 rfl) (by decide) ?_
      replace h := h _ rfl
      refine xJ.iload_n (o_Checker_workOutOr 33 rfl) rfl ?_
      refine xJ.if_eq (tgt := 79) (o_Checker_workOutOr 34 rfl) (by decide) (fun z => ?_) (fun z => ?_)
      · replace h := h.1 z
        exact xJ.lvs (by exact ⟨rfl, rfl, rfl, rfl, rfl, rfl, rfl, rfl, trivial⟩) (sw_Checker_workOutOr_79 ih h)
      · replace h := h.2 z
        refine xJ.iload (o_Checker_workOutOr 35 rfl) rfl ?_
        refine xJ.iload (o_Checker_workOutOr 36 rfl) rfl ?_
        refine xJ.icmp_ge (tgt := 79) (o_Checker_workOutOr 37 rfl) (by decide) (fun z => ?_) (fun z => ?_)
        · replace h := h.1 z
          exact xJ.lvs (by exact ⟨rfl, rfl, rfl, rfl, rfl, rfl, rfl, rfl, trivial⟩) (sw_Checker_workOutOr_79 ih h)
        · replace h := h.2 z
          refine xJ.aload_n (o_Checker_workOutOr 38 rfl) rfl ?_
          refine xJ.getfield (o_Checker_workOutOr 39 rfl) f_Checker_9 rfl rfl ?_
          refine xJ.iload (o_Checker_workOutOr 40 rfl) rfl ?_
          refine xJ.laload (o_Checker_workOutOr 41 rfl) rfl h.1 ?_
          replace h := h.2
          refine xJ.goto (tgt := 80) (o_Checker_workOutOr 42 rfl) (by decide) ?_
          exact xJ.lvs (by exact ⟨rfl, rfl, rfl, rfl, rfl, rfl, rfl, rfl, trivial⟩) (sw_Checker_workOutOr_80 ih h)
set_option maxRecDepth 20000 in
theorem s_Checker_workOutOr {γ : xG1} {d : Nat} {Q : xO → xS → Prop} {σ : xS} {a1 : Int32} {a2 : Int32} (h : wp_Checker_workOutOr Q σ a1 a2) : xM (SHP, γ) Y_Checker_workOutOr (d + 1) [.ref 44, .int a1, .int a2] σ Q := by
  refine xM.of (by decide) (Nat.le_of_ble_eq_true rfl) ?_
  refine xJ.lconst (v := 0) (o_Checker_workOutOr 0 rfl) (by decide) ?_
  refine xJ.lstore_n (o_Checker_workOutOr 1 rfl) (by decide) ?_
  refine xJ.aload_n (o_Checker_workOutOr 2 rfl) rfl ?_
  refine xJ.getfield (o_Checker_workOutOr 3 rfl) f_Checker_32 rfl rfl ?_
  refine xJ.getfield (o_Checker_workOutOr 4 rfl) f_Checker_45 rfl rfl ?_
  refine xJ.iload_n (o_Checker_workOutOr 5 rfl) rfl ?_
  refine xJ.laload (o_Checker_workOutOr 6 rfl) rfl h.1 ?_
  replace h := h.2
  refine xJ.lstore (o_Checker_workOutOr 7 rfl) (by decide) ?_
  replace h := h _ rfl
  refine xJ.aload_n (o_Checker_workOutOr 8 rfl) rfl ?_
  refine xJ.getfield (o_Checker_workOutOr 9 rfl) f_Checker_32 rfl rfl ?_
  refine xJ.getfield (o_Checker_workOutOr 10 rfl) f_Checker_61 rfl rfl ?_
  refine xJ.iload_n (o_Checker_workOutOr 11 rfl) rfl ?_
  refine xJ.iconst (v := 1) (o_Checker_workOutOr 12 rfl) (by decide) ?_
  refine xJ.iadd (o_Checker_workOutOr 13 rfl) ?_
  refine xJ.iaload (o_Checker_workOutOr 14 rfl) rfl h.1 ?_
  replace h := h.2
  refine xJ.iconst (v := 1) (o_Checker_workOutOr 15 rfl) (by decide) ?_
  refine xJ.isub (o_Checker_workOutOr 16 rfl) ?_
  refine xJ.istore (o_Checker_workOutOr 17 rfl) (by decide) ?_
  replace h := h _ rfl
  refine xJ.aload_n (o_Checker_workOutOr 18 rfl) rfl ?_
  refine xJ.getfield (o_Checker_workOutOr 19 rfl) f_Checker_32 rfl rfl ?_
  refine xJ.getfield (o_Checker_workOutOr 20 rfl) f_Checker_61 rfl rfl ?_
  refine xJ.iload_n (o_Checker_workOutOr 21 rfl) rfl ?_
  refine xJ.iaload (o_Checker_workOutOr 22 rfl) rfl h.1 ?_
  replace h := h.2
  refine xJ.istore (o_Checker_workOutOr 23 rfl) (by decide) ?_
  replace h := h _ rfl
  obtain ⟨m, h⟩ := h
  exact xJ.lvs (by exact ⟨rfl, rfl, rfl, rfl, rfl, rfl, rfl, trivial⟩) (sw_Checker_workOutOr_39 m _ _ _ _ _ _ _ h)
def w_Checker_workOutXor_24 (Q : xO → xS → Prop) : Nat → Int32 → Int64 → Int64 → Int32 → xS → Prop
  | 0 => fun _ _ _ _ _ => False
  | n + 1 => fun a1 a2 a4 a6 σ =>
    (vp_in (a1 + 1) 2001 ∧ (((xi σ 9 (a1 + 1).toNatClampNeg) ≤ a6 → wp_Checker_learn (xqv (fun u3 => Q (.inl none) u3) (fun n u => Q (.inr n) u)) σ a1 a2 a4) ∧ (¬ (xi σ 9 (a1 + 1).toNatClampNeg) ≤ a6 → (vp_in a6 80000 ∧ (vp_in (xi σ 10 a6.toNatClampNeg) 2000 ∧ (∀ x5 : Int64, x5 = (a2 &&& (xl σ 45 (xi σ 10 a6.toNatClampNeg).toNatClampNeg)) → (vp_in a6 80000 ∧ (vp_in (xi σ 10 a6.toNatClampNeg) 2000 ∧ (∀ x6 : Int64, x6 = (a4 ^^^ (xl σ 46 (xi σ 10 a6.toNatClampNeg).toNatClampNeg)) → (∀ x7 : Int32, x7 = a6 + 1 → w_Checker_workOutXor_24 Q n a1 x5 x6 x7 σ))))))))))
def wp_Checker_workOutXor (Q : xO → xS → Prop) (σ : xS) (a1 : Int32) : Prop :=
  (vp_in a1 2000 ∧ (∀ x1 : Int64, x1 = (xl σ 13 a1.toNatClampNeg) → (vp_in a1 2001 ∧ (∀ x2 : Int32, x2 = (xi σ 9 a1.toNatClampNeg) → ∃ m, w_Checker_workOutXor_24 Q m a1 x1 0 x2 σ))))
set_option maxRecDepth 20000 in
theorem sw_Checker_workOutXor_24 {γ : xG1} {d b0 : Nat} {Q : xO → xS → Prop} : ∀ (n : Nat) (a1 : Int32) (a2 : Int64) (a4 : Int64) (a6 : Int32) (σ : xS), w_Checker_workOutXor_24 Q n a1 a2 a4 a6 σ → xJ (SHP, γ) Y_Checker_workOutXor (d + 1) b0 24 [(0, .ref 44), (1, .int a1), (2, .long a2), (4, .long a4), (6, .int a6)] [] σ Q := by
  intro n
  induction n with
  | zero => intro a1 a2 a4 a6 σ h; exact h.elim
  | succ n ih =>
    intro a1 a2 a4 a6 σ h
    refine xJ.iload (o_Checker_workOutXor 14 rfl) rfl ?_
    refine xJ.aload_n (o_Checker_workOutXor 15 rfl) rfl ?_
    refine xJ.getfield (o_Checker_workOutXor 16 rfl) f_Checker_32 rfl rfl ?_
    refine xJ.getfield (o_Checker_workOutXor 17 rfl) f_Checker_61 rfl rfl ?_
    refine xJ.iload_n (o_Checker_workOutXor 18 rfl) rfl ?_
    refine xJ.iconst (v := 1) (o_Checker_workOutXor 19 rfl) (by decide) ?_
    refine xJ.iadd (o_Checker_workOutXor 20 rfl) ?_
    refine xJ.iaload (o_Checker_workOutXor 21 rfl) rfl h.1 ?_
    replace h := h.2
    refine xJ.icmp_ge (tgt := 84) (o_Checker_workOutXor 22 rfl) (by decide) (fun z => ?_) (fun z => ?_)
    · replace h := h.1 z
      refine xJ.aload_n (o_Checker_workOutXor 47 rfl) rfl ?_
      refine xJ.iload_n (o_Checker_workOutXor 48 rfl) rfl ?_
      refine xJ.lload_n (o_Checker_workOutXor 49 rfl) rfl ?_
      refine xJ.lload (o_Checker_workOutXor 50 rfl) rfl ?_
      refine xJ.callV (Y' := Y_Checker_learn) (o_Checker_workOutXor 51 rfl) m_Checker_50 y_Checker_learn im_Checker_learn se_Checker_learn rfl rfl (s_Checker_learn h) rfl rfl (Nat.le_of_ble_eq_true rfl) (fun _ hx => by cases hx) (fun v u q => ?_) (fun n u q => q)
      obtain ⟨rfl, h⟩ := xqv_get q
      exact xJ.return_ (o_Checker_workOutXor 52 rfl) rfl h
    · replace h := h.2 z
      refine xJ.lload_n (o_Checker_workOutXor 23 rfl) rfl ?_
      refine xJ.aload_n (o_Checker_workOutXor 24 rfl) rfl ?_
      refine xJ.getfield (o_Checker_workOutXor 25 rfl) f_Checker_9 rfl rfl ?_
      refine xJ.aload_n (o_Checker_workOutXor 26 rfl) rfl ?_
      refine xJ.getfield (o_Checker_workOutXor 27 rfl) f_Checker_32 rfl rfl ?_
      refine xJ.getfield (o_Checker_workOutXor 28 rfl) f_Checker_74 rfl rfl ?_
      refine xJ.iload (o_Checker_workOutXor 29 rfl) rfl ?_
      refine xJ.iaload (o_Checker_workOutXor 30 rfl) rfl h.1 ?_
      replace h := h.2
      refine xJ.laload (o_Checker_workOutXor 31 rfl) rfl h.1 ?_
      replace h := h.2
      refine xJ.land (o_Checker_workOutXor 32 rfl) ?_
      refine xJ.lstore_n (o_Checker_workOutXor 33 rfl) (by decide) ?_
      replace h := h _ rfl
      refine xJ.lload (o_Checker_workOutXor 34 rfl) rfl ?_
      refine xJ.aload_n (o_Checker_workOutXor 35 rfl) rfl ?_
      refine xJ.getfield (o_Checker_workOutXor 36 rfl) f_Checker_15 rfl rfl ?_
      refine xJ.aload_n (o_Checker_workOutXor 37 rfl) rfl ?_
      refine xJ.getfield (o_Checker_workOutXor 38 rfl) f_Checker_32 rfl rfl ?_
      refine xJ.getfield (o_Checker_workOutXor 39 rfl) f_Checker_74 rfl rfl ?_
      refine xJ.iload (o_Checker_workOutXor 40 rfl) rfl ?_
      refine xJ.iaload (o_Checker_workOutXor 41 rfl) rfl h.1 ?_
      replace h := h.2
      refine xJ.laload (o_Checker_workOutXor 42 rfl) rfl h.1 ?_
      replace h := h.2
      refine xJ.lxor (o_Checker_workOutXor 43 rfl) ?_
      refine xJ.lstore (o_Checker_workOutXor 44 rfl) (by decide) ?_
      replace h := h _ rfl
      refine xJ.iincC (w := 1) (o_Checker_workOutXor 45 rfl) rfl (by decide) (by decide) ?_
      replace h := h _ rfl
      refine xJ.goto (tgt := 24) (o_Checker_workOutXor 46 rfl) (by decide) ?_
      exact xJ.lvs (by exact ⟨rfl, rfl, rfl, rfl, rfl, trivial⟩) (ih _ _ _ _ _ h)
set_option maxRecDepth 20000 in
theorem s_Checker_workOutXor {γ : xG1} {d : Nat} {Q : xO → xS → Prop} {σ : xS} {a1 : Int32} (h : wp_Checker_workOutXor Q σ a1) : xM (SHP, γ) Y_Checker_workOutXor (d + 1) [.ref 44, .int a1] σ Q := by
  refine xM.of (by decide) (Nat.le_of_ble_eq_true rfl) ?_
  refine xJ.aload_n (o_Checker_workOutXor 0 rfl) rfl ?_
  refine xJ.getfield (o_Checker_workOutXor 1 rfl) f_Checker_32 rfl rfl ?_
  refine xJ.getfield (o_Checker_workOutXor 2 rfl) f_Checker_45 rfl rfl ?_
  refine xJ.iload_n (o_Checker_workOutXor 3 rfl) rfl ?_
  refine xJ.laload (o_Checker_workOutXor 4 rfl) rfl h.1 ?_
  replace h := h.2
  refine xJ.lstore_n (o_Checker_workOutXor 5 rfl) (by decide) ?_
  replace h := h _ rfl
  refine xJ.lconst (v := 0) (o_Checker_workOutXor 6 rfl) (by decide) ?_
  refine xJ.lstore (o_Checker_workOutXor 7 rfl) (by decide) ?_
  refine xJ.aload_n (o_Checker_workOutXor 8 rfl) rfl ?_
  refine xJ.getfield (o_Checker_workOutXor 9 rfl) f_Checker_32 rfl rfl ?_
  refine xJ.getfield (o_Checker_workOutXor 10 rfl) f_Checker_61 rfl rfl ?_
  refine xJ.iload_n (o_Checker_workOutXor 11 rfl) rfl ?_
  refine xJ.iaload (o_Checker_workOutXor 12 rfl) rfl h.1 ?_
  replace h := h.2
  refine xJ.istore (o_Checker_workOutXor 13 rfl) (by decide) ?_
  replace h := h _ rfl
  obtain ⟨m, h⟩ := h
  exact xJ.lvs (by exact ⟨rfl, rfl, rfl, rfl, rfl, trivial⟩) (sw_Checker_workOutXor_24 m _ _ _ _ _ h)
def wp_Checker_isKnown (Q : xO → xS → Prop) (σ : xS) (a1 : Int32) : Prop :=
  (vp_in a1 2000 ∧ (vp_in a1 2000 ∧ ((¬ (lg_cmp (xl σ 45 a1.toNatClampNeg) (xl σ 13 a1.toNatClampNeg)) = 0 → Q (.inl (some (.int 0))) σ) ∧ ((lg_cmp (xl σ 45 a1.toNatClampNeg) (xl σ 13 a1.toNatClampNeg)) = 0 → Q (.inl (some (.int 1))) σ))))
set_option maxRecDepth 20000 in
theorem s_Checker_isKnown {γ : xG1} {d : Nat} {Q : xO → xS → Prop} {σ : xS} {a1 : Int32} (h : wp_Checker_isKnown Q σ a1) : xM (SHP, γ) Y_Checker_isKnown (d + 0) [.ref 44, .int a1] σ Q := by
  refine xM.of (by decide) (Nat.le_of_ble_eq_true rfl) ?_
  refine xJ.aload_n (o_Checker_isKnown 0 rfl) rfl ?_
  refine xJ.getfield (o_Checker_isKnown 1 rfl) f_Checker_9 rfl rfl ?_
  refine xJ.iload_n (o_Checker_isKnown 2 rfl) rfl ?_
  refine xJ.laload (o_Checker_isKnown 3 rfl) rfl h.1 ?_
  replace h := h.2
  refine xJ.aload_n (o_Checker_isKnown 4 rfl) rfl ?_
  refine xJ.getfield (o_Checker_isKnown 5 rfl) f_Checker_32 rfl rfl ?_
  refine xJ.getfield (o_Checker_isKnown 6 rfl) f_Checker_45 rfl rfl ?_
  refine xJ.iload_n (o_Checker_isKnown 7 rfl) rfl ?_
  refine xJ.laload (o_Checker_isKnown 8 rfl) rfl h.1 ?_
  replace h := h.2
  refine xJ.lcmp (o_Checker_isKnown 9 rfl) ?_
  refine xJ.if_ne (tgt := 23) (o_Checker_isKnown 10 rfl) (by decide) (fun z => ?_) (fun z => ?_)
  · replace h := h.1 z
    refine xJ.iconst (v := 0) (o_Checker_isKnown 13 rfl) (by decide) ?_
    exact xJ.zreturn (o_Checker_isKnown 14 rfl) rfl (Or.inl rfl) h
  · replace h := h.2 z
    refine xJ.iconst (v := 1) (o_Checker_isKnown 11 rfl) (by decide) ?_
    refine xJ.goto (tgt := 24) (o_Checker_isKnown 12 rfl) (by decide) ?_
    exact xJ.zreturn (o_Checker_isKnown 14 rfl) rfl (Or.inr rfl) h
def w_Checker_workOutIte_25 (Q : xO → xS → Prop) (a1 : Int32) (t0 : Int32) (σ : xS) : Prop :=
  (vp_in t0 2000 ∧ (vp_in t0 2000 ∧ wp_Checker_learn (xqv (fun u5 => Q (.inl none) u5) (fun n u => Q (.inr n) u)) σ a1 (xl σ 45 t0.toNatClampNeg) (xl σ 46 t0.toNatClampNeg)))
def wp_Checker_workOutIte (Q : xO → xS → Prop) (σ : xS) (a1 : Int32) (a2 : Int32) (a3 : Int32) (a4 : Int32) : Prop :=
  wp_Checker_isKnown (xqi (fun r2 u1 => ((r2 = 0 → (vp_in a3 2000 ∧ (vp_in a4 2000 ∧ (vp_in a3 2000 ∧ (vp_in a4 2000 ∧ (vp_in a3 2000 ∧ wp_Checker_learn (xqv (fun u3 => Q (.inl none) u3) (fun n u => Q (.inr n) u)) u1 a1 (((xl u1 45 a3.toNatClampNeg) &&& (xl u1 45 a4.toNatClampNeg)) &&& (((xl u1 46 a3.toNatClampNeg) ^^^ (xl u1 46 a4.toNatClampNeg)) ^^^ (-1))) (xl u1 46 a3.toNatClampNeg))))))) ∧ (¬ r2 = 0 → (vp_in a2 2000 ∧ (((lg_cmp (xl u1 46 a2.toNatClampNeg) 0) = 0 → w_Checker_workOutIte_25 Q a1 a4 u1) ∧ (¬ (lg_cmp (xl u1 46 a2.toNatClampNeg) 0) = 0 → w_Checker_workOutIte_25 Q a1 a3 u1)))))) (fun n u => Q (.inr n) u)) σ a2
set_option maxRecDepth 20000 in
theorem sw_Checker_workOutIte_25 {γ : xG1} {d b0 : Nat} {Q : xO → xS → Prop} {a1 : Int32} {t0 : Int32} {σ : xS} (h : w_Checker_workOutIte_25 Q a1 t0 σ) : xJ (SHP, γ) Y_Checker_workOutIte (d + 1) b0 25 [(0, .ref 44), (1, .int a1)] [.int t0] σ Q := by
  refine xJ.istore (o_Checker_workOutIte 14 rfl) (by decide) ?_
  refine xJ.aload_n (o_Checker_workOutIte 15 rfl) rfl ?_
  refine xJ.iload_n (o_Checker_workOutIte 16 rfl) rfl ?_
  refine xJ.aload_n (o_Checker_workOutIte 17 rfl) rfl ?_
  refine xJ.getfield (o_Checker_workOutIte 18 rfl) f_Checker_9 rfl rfl ?_
  refine xJ.iload (o_Checker_workOutIte 19 rfl) rfl ?_
  refine xJ.laload (o_Checker_workOutIte 20 rfl) rfl h.1 ?_
  replace h := h.2
  refine xJ.aload_n (o_Checker_workOutIte 21 rfl) rfl ?_
  refine xJ.getfield (o_Checker_workOutIte 22 rfl) f_Checker_15 rfl rfl ?_
  refine xJ.iload (o_Checker_workOutIte 23 rfl) rfl ?_
  refine xJ.laload (o_Checker_workOutIte 24 rfl) rfl h.1 ?_
  replace h := h.2
  refine xJ.callV (Y' := Y_Checker_learn) (o_Checker_workOutIte 25 rfl) m_Checker_50 y_Checker_learn im_Checker_learn se_Checker_learn rfl rfl (s_Checker_learn h) rfl rfl (Nat.le_of_ble_eq_true rfl) (fun _ hx => by cases hx) (fun v u q => ?_) (fun n u q => q)
  obtain ⟨rfl, h⟩ := xqv_get q
  refine xJ.goto (tgt := 93) (o_Checker_workOutIte 26 rfl) (by decide) ?_
  exact xJ.return_ (o_Checker_workOutIte 55 rfl) rfl h
set_option maxRecDepth 20000 in
theorem s_Checker_workOutIte {γ : xG1} {d : Nat} {Q : xO → xS → Prop} {σ : xS} {a1 : Int32} {a2 : Int32} {a3 : Int32} {a4 : Int32} (h : wp_Checker_workOutIte Q σ a1 a2 a3 a4) : xM (SHP, γ) Y_Checker_workOutIte (d + 1) [.ref 44, .int a1, .int a2, .int a3, .int a4] σ Q := by
  refine xM.of (by decide) (Nat.le_of_ble_eq_true rfl) ?_
  refine xJ.aload_n (o_Checker_workOutIte 0 rfl) rfl ?_
  refine xJ.iload_n (o_Checker_workOutIte 1 rfl) rfl ?_
  refine xJ.callV (Y' := Y_Checker_isKnown) (o_Checker_workOutIte 2 rfl) m_Checker_131 y_Checker_isKnown im_Checker_isKnown se_Checker_isKnown rfl rfl (s_Checker_isKnown h) rfl rfl (Nat.le_of_ble_eq_true rfl) (fun _ hx => by cases hx) (fun v u q => ?_) (fun n u q => q)
  obtain ⟨r, rfl, h⟩ := xqi_get q
  refine xJ.if_eq (tgt := 49) (o_Checker_workOutIte 3 rfl) (by decide) (fun z => ?_) (fun z => ?_)
  · replace h := h.1 z
    refine xJ.aload_n (o_Checker_workOutIte 27 rfl) rfl ?_
    refine xJ.iload_n (o_Checker_workOutIte 28 rfl) rfl ?_
    refine xJ.aload_n (o_Checker_workOutIte 29 rfl) rfl ?_
    refine xJ.getfield (o_Checker_workOutIte 30 rfl) f_Checker_9 rfl rfl ?_
    refine xJ.iload_n (o_Checker_workOutIte 31 rfl) rfl ?_
    refine xJ.laload (o_Checker_workOutIte 32 rfl) rfl h.1 ?_
    replace h := h.2
    refine xJ.aload_n (o_Checker_workOutIte 33 rfl) rfl ?_
    refine xJ.getfield (o_Checker_workOutIte 34 rfl) f_Checker_9 rfl rfl ?_
    refine xJ.iload (o_Checker_workOutIte 35 rfl) rfl ?_
    refine xJ.laload (o_Checker_workOutIte 36 rfl) rfl h.1 ?_
    replace h := h.2
    refine xJ.land (o_Checker_workOutIte 37 rfl) ?_
    refine xJ.aload_n (o_Checker_workOutIte 38 rfl) rfl ?_
    refine xJ.getfield (o_Checker_workOutIte 39 rfl) f_Checker_15 rfl rfl ?_
    refine xJ.iload_n (o_Checker_workOutIte 40 rfl) rfl ?_
    refine xJ.laload (o_Checker_workOutIte 41 rfl) rfl h.1 ?_
    replace h := h.2
    refine xJ.aload_n (o_Checker_workOutIte 42 rfl) rfl ?_
    refine xJ.getfield (o_Checker_workOutIte 43 rfl) f_Checker_15 rfl rfl ?_
    refine xJ.iload (o_Checker_workOutIte 44 rfl) rfl ?_
    refine xJ.laload (o_Checker_workOutIte 45 rfl) rfl h.1 ?_
    replace h := h.2
    refine xJ.lxor (o_Checker_workOutIte 46 rfl) ?_
    refine xJ.ldc2 (v := (-1)) (o_Checker_workOutIte 47 rfl) k_Checker_77 ?_
    refine xJ.lxor (o_Checker_workOutIte 48 rfl) ?_
    refine xJ.land (o_Checker_workOutIte 49 rfl) ?_
    refine xJ.aload_n (o_Checker_workOutIte 50 rfl) rfl ?_
    refine xJ.getfield (o_Checker_workOutIte 51 rfl) f_Checker_15 rfl rfl ?_
    refine xJ.iload_n (o_Checker_workOutIte 52 rfl) rfl ?_
    refine xJ.laload (o_Checker_workOutIte 53 rfl) rfl h.1 ?_
    replace h := h.2
    refine xJ.callV (Y' := Y_Checker_learn) (o_Checker_workOutIte 54 rfl) m_Checker_50 y_Checker_learn im_Checker_learn se_Checker_learn rfl rfl (s_Checker_learn h) rfl rfl (Nat.le_of_ble_eq_true rfl) (fun _ hx => by cases hx) (fun v u q => ?_) (fun n u q => q)
    obtain ⟨rfl, h⟩ := xqv_get q
    exact xJ.return_ (o_Checker_workOutIte 55 rfl) rfl h
  · replace h := h.2 z
    refine xJ.aload_n (o_Checker_workOutIte 4 rfl) rfl ?_
    refine xJ.getfield (o_Checker_workOutIte 5 rfl) f_Checker_15 rfl rfl ?_
    refine xJ.iload_n (o_Checker_workOutIte 6 rfl) rfl ?_
    refine xJ.laload (o_Checker_workOutIte 7 rfl) rfl h.1 ?_
    replace h := h.2
    refine xJ.lconst (v := 0) (o_Checker_workOutIte 8 rfl) (by decide) ?_
    refine xJ.lcmp (o_Checker_workOutIte 9 rfl) ?_
    refine xJ.if_eq (tgt := 23) (o_Checker_workOutIte 10 rfl) (by decide) (fun z => ?_) (fun z => ?_)
    · replace h := h.1 z
      refine xJ.iload (o_Checker_workOutIte 13 rfl) rfl ?_
      exact xJ.lvs (by exact ⟨rfl, rfl, trivial⟩) (sw_Checker_workOutIte_25 h)
    · replace h := h.2 z
      refine xJ.iload_n (o_Checker_workOutIte 11 rfl) rfl ?_
      refine xJ.goto (tgt := 25) (o_Checker_workOutIte 12 rfl) (by decide) ?_
      exact xJ.lvs (by exact ⟨rfl, rfl, trivial⟩) (sw_Checker_workOutIte_25 h)
def w_Checker_learnEither_24 (Q : xO → xS → Prop) (t1 : Int32) (t2 : Int64) (t3 : Int64) (σ : xS) : Prop :=
  wp_Checker_learn (xqv (fun u1 => Q (.inl none) u1) (fun n u => Q (.inr n) u)) σ t1 t2 t3
def w_Checker_learnEither_15 (Q : xO → xS → Prop) (a2 : Int32) (t1 : Int32) (t2 : Int64) (σ : xS) : Prop :=
  ((a2 = 0 → w_Checker_learnEither_24 Q t1 t2 0 σ) ∧ (¬ a2 = 0 → w_Checker_learnEither_24 Q t1 t2 1 σ))
def w_Checker_learnEither_10 (Q : xO → xS → Prop) (a2 : Int32) (t1 : Int32) (σ : xS) : Prop :=
  w_Checker_learnEither_15 Q a2 t1 1 σ
def wp_Checker_learnEither (Q : xO → xS → Prop) (σ : xS) (a1 : Int32) (a2 : Int32) (a3 : Int32) : Prop :=
  ((¬ a2 = 0 → w_Checker_learnEither_10 Q a2 a1 σ) ∧ (a2 = 0 → ((a3 = 0 → w_Checker_learnEither_15 Q a2 a1 0 σ) ∧ (¬ a3 = 0 → w_Checker_learnEither_10 Q a2 a1 σ))))
set_option maxRecDepth 20000 in
theorem sw_Checker_learnEither_24 {γ : xG1} {d b0 : Nat} {Q : xO → xS → Prop} {t1 : Int32} {t2 : Int64} {t3 : Int64} {σ : xS} (h : w_Checker_learnEither_24 Q t1 t2 t3 σ) : xJ (SHP, γ) Y_Checker_learnEither (d + 1) b0 24 [] [.long t3, .long t2, .int t1, .ref 44] σ Q := by
  refine xJ.callV (Y' := Y_Checker_learn) (o_Checker_learnEither 14 rfl) m_Checker_50 y_Checker_learn im_Checker_learn se_Checker_learn rfl rfl (s_Checker_learn h) rfl rfl (Nat.le_of_ble_eq_true rfl) (fun _ hx => by cases hx) (fun v u q => ?_) (fun n u q => q)
  obtain ⟨rfl, h⟩ := xqv_get q
  exact xJ.return_ (o_Checker_learnEither 15 rfl) rfl h
set_option maxRecDepth 20000 in
theorem sw_Checker_learnEither_15 {γ : xG1} {d b0 : Nat} {Q : xO → xS → Prop} {a2 : Int32} {t1 : Int32} {t2 : Int64} {σ : xS} (h : w_Checker_learnEither_15 Q a2 t1 t2 σ) : xJ (SHP, γ) Y_Checker_learnEither (d + 1) b0 15 [(2, .int a2)] [.long t2, .int t1, .ref 44] σ Q := by
  refine xJ.iload_n (o_Checker_learnEither 9 rfl) rfl ?_
  refine xJ.if_eq (tgt := 23) (o_Checker_learnEither 10 rfl) (by decide) (fun z => ?_) (fun z => ?_)
  · replace h := h.1 z
    refine xJ.lconst (v := 0) (o_Checker_learnEither 13 rfl) (by decide) ?_
    exact xJ.lvs (by exact trivial) (sw_Checker_learnEither_24 h)
  · replace h := h.2 z
    refine xJ.lconst (v := 1) (o_Checker_learnEither 11 rfl) (by decide) ?_
    refine xJ.goto (tgt := 24) (o_Checker_learnEither 12 rfl) (by decide) ?_
    exact xJ.lvs (by exact trivial) (sw_Checker_learnEither_24 h)
set_option maxRecDepth 20000 in
theorem sw_Checker_learnEither_10 {γ : xG1} {d b0 : Nat} {Q : xO → xS → Prop} {a2 : Int32} {t1 : Int32} {σ : xS} (h : w_Checker_learnEither_10 Q a2 t1 σ) : xJ (SHP, γ) Y_Checker_learnEither (d + 1) b0 10 [(2, .int a2)] [.int t1, .ref 44] σ Q := by
  refine xJ.lconst (v := 1) (o_Checker_learnEither 6 rfl) (by decide) ?_
  refine xJ.goto (tgt := 15) (o_Checker_learnEither 7 rfl) (by decide) ?_
  exact xJ.lvs (by exact ⟨rfl, trivial⟩) (sw_Checker_learnEither_15 h)
set_option maxRecDepth 20000 in
theorem s_Checker_learnEither {γ : xG1} {d : Nat} {Q : xO → xS → Prop} {σ : xS} {a1 : Int32} {a2 : Int32} {a3 : Int32} (h : wp_Checker_learnEither Q σ a1 a2 a3) : xM (SHP, γ) Y_Checker_learnEither (d + 1) [.ref 44, .int a1, .int a2, .int a3] σ Q := by
  refine xM.of (by decide) (Nat.le_of_ble_eq_true rfl) ?_
  refine xJ.aload_n (o_Checker_learnEither 0 rfl) rfl ?_
  refine xJ.iload_n (o_Checker_learnEither 1 rfl) rfl ?_
  refine xJ.iload_n (o_Checker_learnEither 2 rfl) rfl ?_
  refine xJ.if_ne (tgt := 10) (o_Checker_learnEither 3 rfl) (by decide) (fun z => ?_) (fun z => ?_)
  · replace h := h.1 z
    exact xJ.lvs (by exact ⟨rfl, trivial⟩) (sw_Checker_learnEither_10 h)
  · replace h := h.2 z
    refine xJ.iload_n (o_Checker_learnEither 4 rfl) rfl ?_
    refine xJ.if_eq (tgt := 14) (o_Checker_learnEither 5 rfl) (by decide) (fun z => ?_) (fun z => ?_)
    · replace h := h.1 z
      refine xJ.lconst (v := 0) (o_Checker_learnEither 8 rfl) (by decide) ?_
      exact xJ.lvs (by exact ⟨rfl, trivial⟩) (sw_Checker_learnEither_15 h)
    · replace h := h.2 z
      exact xJ.lvs (by exact ⟨rfl, trivial⟩) (sw_Checker_learnEither_10 h)
def wp_Checker_isSurelyOther (Q : xO → xS → Prop) (σ : xS) (a1 : Int32) (a2 : Int32) : Prop :=
  (vp_in a1 2000 ∧ (vp_in a2 2000 ∧ (vp_in a1 2000 ∧ (vp_in a2 2000 ∧ (((lg_cmp (((xl σ 45 a1.toNatClampNeg) &&& (xl σ 45 a2.toNatClampNeg)) &&& ((xl σ 46 a1.toNatClampNeg) ^^^ (xl σ 46 a2.toNatClampNeg))) 0) = 0 → Q (.inl (some (.int 0))) σ) ∧ (¬ (lg_cmp (((xl σ 45 a1.toNatClampNeg) &&& (xl σ 45 a2.toNatClampNeg)) &&& ((xl σ 46 a1.toNatClampNeg) ^^^ (xl σ 46 a2.toNatClampNeg))) 0) = 0 → Q (.inl (some (.int 1))) σ))))))
set_option maxRecDepth 20000 in
theorem s_Checker_isSurelyOther {γ : xG1} {d : Nat} {Q : xO → xS → Prop} {σ : xS} {a1 : Int32} {a2 : Int32} (h : wp_Checker_isSurelyOther Q σ a1 a2) : xM (SHP, γ) Y_Checker_isSurelyOther (d + 0) [.ref 44, .int a1, .int a2] σ Q := by
  refine xM.of (by decide) (Nat.le_of_ble_eq_true rfl) ?_
  refine xJ.aload_n (o_Checker_isSurelyOther 0 rfl) rfl ?_
  refine xJ.getfield (o_Checker_isSurelyOther 1 rfl) f_Checker_9 rfl rfl ?_
  refine xJ.iload_n (o_Checker_isSurelyOther 2 rfl) rfl ?_
  refine xJ.laload (o_Checker_isSurelyOther 3 rfl) rfl h.1 ?_
  replace h := h.2
  refine xJ.aload_n (o_Checker_isSurelyOther 4 rfl) rfl ?_
  refine xJ.getfield (o_Checker_isSurelyOther 5 rfl) f_Checker_9 rfl rfl ?_
  refine xJ.iload_n (o_Checker_isSurelyOther 6 rfl) rfl ?_
  refine xJ.laload (o_Checker_isSurelyOther 7 rfl) rfl h.1 ?_
  replace h := h.2
  refine xJ.land (o_Checker_isSurelyOther 8 rfl) ?_
  refine xJ.aload_n (o_Checker_isSurelyOther 9 rfl) rfl ?_
  refine xJ.getfield (o_Checker_isSurelyOther 10 rfl) f_Checker_15 rfl rfl ?_
  refine xJ.iload_n (o_Checker_isSurelyOther 11 rfl) rfl ?_
  refine xJ.laload (o_Checker_isSurelyOther 12 rfl) rfl h.1 ?_
  replace h := h.2
  refine xJ.aload_n (o_Checker_isSurelyOther 13 rfl) rfl ?_
  refine xJ.getfield (o_Checker_isSurelyOther 14 rfl) f_Checker_15 rfl rfl ?_
  refine xJ.iload_n (o_Checker_isSurelyOther 15 rfl) rfl ?_
  refine xJ.laload (o_Checker_isSurelyOther 16 rfl) rfl h.1 ?_
  replace h := h.2
  refine xJ.lxor (o_Checker_isSurelyOther 17 rfl) ?_
  refine xJ.land (o_Checker_isSurelyOther 18 rfl) ?_
  refine xJ.lconst (v := 0) (o_Checker_isSurelyOther 19 rfl) (by decide) ?_
  refine xJ.lcmp (o_Checker_isSurelyOther 20 rfl) ?_
  refine xJ.if_eq (tgt := 36) (o_Checker_isSurelyOther 21 rfl) (by decide) (fun z => ?_) (fun z => ?_)
  · replace h := h.1 z
    refine xJ.iconst (v := 0) (o_Checker_isSurelyOther 24 rfl) (by decide) ?_
    exact xJ.zreturn (o_Checker_isSurelyOther 25 rfl) rfl (Or.inl rfl) h
  · replace h := h.2 z
    refine xJ.iconst (v := 1) (o_Checker_isSurelyOther 22 rfl) (by decide) ?_
    refine xJ.goto (tgt := 37) (o_Checker_isSurelyOther 23 rfl) (by decide) ?_
    exact xJ.zreturn (o_Checker_isSurelyOther 25 rfl) rfl (Or.inr rfl) h
def wp_Checker_isSurelySame (Q : xO → xS → Prop) (σ : xS) (a1 : Int32) (a2 : Int32) : Prop :=
  wp_Checker_isKnown (xqi (fun r2 u1 => ((r2 = 0 → Q (.inl (some (.int 0))) u1) ∧ (¬ r2 = 0 → wp_Checker_isKnown (xqi (fun r4 u3 => ((r4 = 0 → Q (.inl (some (.int 0))) u3) ∧ (¬ r4 = 0 → (vp_in a1 2000 ∧ (vp_in a2 2000 ∧ ((¬ (lg_cmp (xl u3 46 a1.toNatClampNeg) (xl u3 46 a2.toNatClampNeg)) = 0 → Q (.inl (some (.int 0))) u3) ∧ ((lg_cmp (xl u3 46 a1.toNatClampNeg) (xl u3 46 a2.toNatClampNeg)) = 0 → Q (.inl (some (.int 1))) u3))))))) (fun n u => Q (.inr n) u)) u1 a2))) (fun n u => Q (.inr n) u)) σ a1
set_option maxRecDepth 20000 in
theorem s_Checker_isSurelySame {γ : xG1} {d : Nat} {Q : xO → xS → Prop} {σ : xS} {a1 : Int32} {a2 : Int32} (h : wp_Checker_isSurelySame Q σ a1 a2) : xM (SHP, γ) Y_Checker_isSurelySame (d + 1) [.ref 44, .int a1, .int a2] σ Q := by
  refine xM.of (by decide) (Nat.le_of_ble_eq_true rfl) ?_
  refine xJ.aload_n (o_Checker_isSurelySame 0 rfl) rfl ?_
  refine xJ.iload_n (o_Checker_isSurelySame 1 rfl) rfl ?_
  refine xJ.callV (Y' := Y_Checker_isKnown) (o_Checker_isSurelySame 2 rfl) m_Checker_131 y_Checker_isKnown im_Checker_isKnown se_Checker_isKnown rfl rfl (s_Checker_isKnown h) rfl rfl (Nat.le_of_ble_eq_true rfl) (fun _ hx => by cases hx) (fun v u q => ?_) (fun n u q => q)
  obtain ⟨r, rfl, h⟩ := xqi_get q
  refine xJ.if_eq (tgt := 36) (o_Checker_isSurelySame 3 rfl) (by decide) (fun z => ?_) (fun z => ?_)
  · replace h := h.1 z
    refine xJ.iconst (v := 0) (o_Checker_isSurelySame 20 rfl) (by decide) ?_
    exact xJ.zreturn (o_Checker_isSurelySame 21 rfl) rfl (Or.inl rfl) h
  · replace h := h.2 z
    refine xJ.aload_n (o_Checker_isSurelySame 4 rfl) rfl ?_
    refine xJ.iload_n (o_Checker_isSurelySame 5 rfl) rfl ?_
    refine xJ.callV (Y' := Y_Checker_isKnown) (o_Checker_isSurelySame 6 rfl) m_Checker_131 y_Checker_isKnown im_Checker_isKnown se_Checker_isKnown rfl rfl (s_Checker_isKnown h) rfl rfl (Nat.le_of_ble_eq_true rfl) (fun _ hx => by cases hx) (fun v u q => ?_) (fun n u q => q)
    obtain ⟨r, rfl, h⟩ := xqi_get q
    refine xJ.if_eq (tgt := 36) (o_Checker_isSurelySame 7 rfl) (by decide) (fun z => ?_) (fun z => ?_)
    · replace h := h.1 z
      refine xJ.iconst (v := 0) (o_Checker_isSurelySame 20 rfl) (by decide) ?_
      exact xJ.zreturn (o_Checker_isSurelySame 21 rfl) rfl (Or.inl rfl) h
    · replace h := h.2 z
      refine xJ.aload_n (o_Checker_isSurelySame 8 rfl) rfl ?_
      refine xJ.getfield (o_Checker_isSurelySame 9 rfl) f_Checker_15 rfl rfl ?_
      refine xJ.iload_n (o_Checker_isSurelySame 10 rfl) rfl ?_
      refine xJ.laload (o_Checker_isSurelySame 11 rfl) rfl h.1 ?_
      replace h := h.2
      refine xJ.aload_n (o_Checker_isSurelySame 12 rfl) rfl ?_
      refine xJ.getfield (o_Checker_isSurelySame 13 rfl) f_Checker_15 rfl rfl ?_
      refine xJ.iload_n (o_Checker_isSurelySame 14 rfl) rfl ?_
      refine xJ.laload (o_Checker_isSurelySame 15 rfl) rfl h.1 ?_
      replace h := h.2
      refine xJ.lcmp (o_Checker_isSurelySame 16 rfl) ?_
      refine xJ.if_ne (tgt := 36) (o_Checker_isSurelySame 17 rfl) (by decide) (fun z => ?_) (fun z => ?_)
      · replace h := h.1 z
        refine xJ.iconst (v := 0) (o_Checker_isSurelySame 20 rfl) (by decide) ?_
        exact xJ.zreturn (o_Checker_isSurelySame 21 rfl) rfl (Or.inl rfl) h
      · replace h := h.2 z
        refine xJ.iconst (v := 1) (o_Checker_isSurelySame 18 rfl) (by decide) ?_
        refine xJ.goto (tgt := 37) (o_Checker_isSurelySame 19 rfl) (by decide) ?_
        exact xJ.zreturn (o_Checker_isSurelySame 21 rfl) rfl (Or.inr rfl) h
def w_Checker_workOutEqual_36 (Q : xO → xS → Prop) : Nat → Int32 → Int32 → Int32 → Int32 → Int32 → xS → Prop
  | 0 => fun _ _ _ _ _ _ => False
  | n + 1 => fun a1 a2 a3 a4 a5 σ =>
    (vp_in (a1 + 1) 2001 ∧ (((xi σ 9 (a1 + 1).toNatClampNeg) ≤ a5 → wp_Checker_learnEither (xqv (fun u3 => Q (.inl none) u3) (fun n u => Q (.inr n) u)) σ a1 a3 a4) ∧ (¬ (xi σ 9 (a1 + 1).toNatClampNeg) ≤ a5 → (vp_in a5 80000 ∧ wp_Checker_isSurelySame (xqi (fun r6 u5 => (∀ x7 : Int32, x7 = (a3 &&& r6) → (vp_in a5 80000 ∧ wp_Checker_isSurelyOther (xqi (fun r9 u8 => (∀ x10 : Int32, x10 = (a4 ||| r9) → (∀ x11 : Int32, x11 = a5 + 1 → w_Checker_workOutEqual_36 Q n a1 a2 x7 x10 x11 u8))) (fun n u => Q (.inr n) u)) u5 a2 (xi u5 10 a5.toNatClampNeg)))) (fun n u => Q (.inr n) u)) σ a2 (xi σ 10 a5.toNatClampNeg)))))
def wp_Checker_workOutEqual (Q : xO → xS → Prop) (σ : xS) (a1 : Int32) : Prop :=
  (vp_in a1 2001 ∧ (vp_in (xi σ 9 a1.toNatClampNeg) 80000 ∧ (∀ x1 : Int32, x1 = (xi σ 10 (xi σ 9 a1.toNatClampNeg).toNatClampNeg) → (vp_in a1 2001 ∧ (∀ x2 : Int32, x2 = ((xi σ 9 a1.toNatClampNeg) + 1) → ∃ m, w_Checker_workOutEqual_36 Q m a1 x1 1 0 x2 σ)))))
set_option maxRecDepth 20000 in
theorem sw_Checker_workOutEqual_36 {γ : xG1} {d b0 : Nat} {Q : xO → xS → Prop} : ∀ (n : Nat) (a1 : Int32) (a2 : Int32) (a3 : Int32) (a4 : Int32) (a5 : Int32) (σ : xS), w_Checker_workOutEqual_36 Q n a1 a2 a3 a4 a5 σ → xJ (SHP, γ) Y_Checker_workOutEqual (d + 2) b0 36 [(0, .ref 44), (1, .int a1), (2, .int a2), (3, .int a3), (4, .int a4), (5, .int a5)] [] σ Q := by
  intro n
  induction n with
  | zero => intro a1 a2 a3 a4 a5 σ h; exact h.elim
  | succ n ih =>
    intro a1 a2 a3 a4 a5 σ h
    refine xJ.iload (o_Checker_workOutEqual 22 rfl) rfl ?_
    refine xJ.aload_n (o_Checker_workOutEqual 23 rfl) rfl ?_
    refine xJ.getfield (o_Checker_workOutEqual 24 rfl) f_Checker_32 rfl rfl ?_
    refine xJ.getfield (o_Checker_workOutEqual 25 rfl) f_Checker_61 rfl rfl ?_
    refine xJ.iload_n (o_Checker_workOutEqual 26 rfl) rfl ?_
    refine xJ.iconst (v := 1) (o_Checker_workOutEqual 27 rfl) (by decide) ?_
    refine xJ.iadd (o_Checker_workOutEqual 28 rfl) ?_
    refine xJ.iaload (o_Checker_workOutEqual 29 rfl) rfl h.1 ?_
    replace h := h.2
    refine xJ.icmp_ge (tgt := 96) (o_Checker_workOutEqual 30 rfl) (by decide) (fun z => ?_) (fun z => ?_)
    · replace h := h.1 z
      refine xJ.aload_n (o_Checker_workOutEqual 55 rfl) rfl ?_
      refine xJ.iload_n (o_Checker_workOutEqual 56 rfl) rfl ?_
      refine xJ.iload_n (o_Checker_workOutEqual 57 rfl) rfl ?_
      refine xJ.iload (o_Checker_workOutEqual 58 rfl) rfl ?_
      refine xJ.callV (Y' := Y_Checker_learnEither) (o_Checker_workOutEqual 59 rfl) m_Checker_142 y_Checker_learnEither im_Checker_learnEither se_Checker_learnEither rfl rfl (s_Checker_learnEither h) rfl rfl (Nat.le_of_ble_eq_true rfl) (fun _ hx => by cases hx) (fun v u q => ?_) (fun n u q => q)
      obtain ⟨rfl, h⟩ := xqv_get q
      exact xJ.return_ (o_Checker_workOutEqual 60 rfl) rfl h
    · replace h := h.2 z
      refine xJ.iload_n (o_Checker_workOutEqual 31 rfl) rfl ?_
      refine xJ.aload_n (o_Checker_workOutEqual 32 rfl) rfl ?_
      refine xJ.iload_n (o_Checker_workOutEqual 33 rfl) rfl ?_
      refine xJ.aload_n (o_Checker_workOutEqual 34 rfl) rfl ?_
      refine xJ.getfield (o_Checker_workOutEqual 35 rfl) f_Checker_32 rfl rfl ?_
      refine xJ.getfield (o_Checker_workOutEqual 36 rfl) f_Checker_74 rfl rfl ?_
      refine xJ.iload (o_Checker_workOutEqual 37 rfl) rfl ?_
      refine xJ.iaload (o_Checker_workOutEqual 38 rfl) rfl h.1 ?_
      replace h := h.2
      refine xJ.callV (Y' := Y_Checker_isSurelySame) (o_Checker_workOutEqual 39 rfl) m_Checker_135 y_Checker_isSurelySame im_Checker_isSurelySame se_Checker_isSurelySame rfl rfl (s_Checker_isSurelySame h) rfl rfl (Nat.le_of_ble_eq_true rfl) (fun _ hx => by cases hx) (fun v u q => ?_) (fun n u q => q)
      obtain ⟨r, rfl, h⟩ := xqi_get q
      refine xJ.iand (o_Checker_workOutEqual 40 rfl) ?_
      refine xJ.istore_n (o_Checker_workOutEqual 41 rfl) (by decide) ?_
      replace h := h _ rfl
      refine xJ.iload (o_Checker_workOutEqual 42 rfl) rfl ?_
      refine xJ.aload_n (o_Checker_workOutEqual 43 rfl) rfl ?_
      refine xJ.iload_n (o_Checker_workOutEqual 44 rfl) rfl ?_
      refine xJ.aload_n (o_Checker_workOutEqual 45 rfl) rfl ?_
      refine xJ.getfield (o_Checker_workOutEqual 46 rfl) f_Checker_32 rfl rfl ?_
      refine xJ.getfield (o_Checker_workOutEqual 47 rfl) f_Checker_74 rfl rfl ?_
      refine xJ.iload (o_Checker_workOutEqual 48 rfl) rfl ?_
      refine xJ.iaload (o_Checker_workOutEqual 49 rfl) rfl h.1 ?_
      replace h := h.2
      refine xJ.callV (Y' := Y_Checker_isSurelyOther) (o_Checker_workOutEqual 50 rfl) m_Checker_139 y_Checker_isSurelyOther im_Checker_isSurelyOther se_Checker_isSurelyOther rfl rfl (s_Checker_isSurelyOther h) rfl rfl (Nat.le_of_ble_eq_true rfl) (fun _ hx => by cases hx) (fun v u q => ?_) (fun n u q => q)
      obtain ⟨r, rfl, h⟩ := xqi_get q
      refine xJ.ior (o_Checker_workOutEqual 51 rfl) ?_
      refine xJ.istore (o_Checker_workOutEqual 52 rfl) (by decide) ?_
      replace h := h _ rfl
      refine xJ.iincC (w := 1) (o_Checker_workOutEqual 53 rfl) rfl (by decide) (by decide) ?_
      replace h := h _ rfl
      refine xJ.goto (tgt := 36) (o_Checker_workOutEqual 54 rfl) (by decide) ?_
      exact xJ.lvs (by exact ⟨rfl, rfl, rfl, rfl, rfl, rfl, trivial⟩) (ih _ _ _ _ _ _ h)
set_option maxRecDepth 20000 in
theorem s_Checker_workOutEqual {γ : xG1} {d : Nat} {Q : xO → xS → Prop} {σ : xS} {a1 : Int32} (h : wp_Checker_workOutEqual Q σ a1) : xM (SHP, γ) Y_Checker_workOutEqual (d + 2) [.ref 44, .int a1] σ Q := by
  refine xM.of (by decide) (Nat.le_of_ble_eq_true rfl) ?_
  refine xJ.aload_n (o_Checker_workOutEqual 0 rfl) rfl ?_
  refine xJ.getfield (o_Checker_workOutEqual 1 rfl) f_Checker_32 rfl rfl ?_
  refine xJ.getfield (o_Checker_workOutEqual 2 rfl) f_Checker_74 rfl rfl ?_
  refine xJ.aload_n (o_Checker_workOutEqual 3 rfl) rfl ?_
  refine xJ.getfield (o_Checker_workOutEqual 4 rfl) f_Checker_32 rfl rfl ?_
  refine xJ.getfield (o_Checker_workOutEqual 5 rfl) f_Checker_61 rfl rfl ?_
  refine xJ.iload_n (o_Checker_workOutEqual 6 rfl) rfl ?_
  refine xJ.iaload (o_Checker_workOutEqual 7 rfl) rfl h.1 ?_
  replace h := h.2
  refine xJ.iaload (o_Checker_workOutEqual 8 rfl) rfl h.1 ?_
  replace h := h.2
  refine xJ.istore_n (o_Checker_workOutEqual 9 rfl) (by decide) ?_
  replace h := h _ rfl
  refine xJ.iconst (v := 1) (o_Checker_workOutEqual 10 rfl) (by decide) ?_
  refine xJ.istore_n (o_Checker_workOutEqual 11 rfl) (by decide) ?_
  refine xJ.iconst (v := 0) (o_Checker_workOutEqual 12 rfl) (by decide) ?_
  refine xJ.istore (o_Checker_workOutEqual 13 rfl) (by decide) ?_
  refine xJ.aload_n (o_Checker_workOutEqual 14 rfl) rfl ?_
  refine xJ.getfield (o_Checker_workOutEqual 15 rfl) f_Checker_32 rfl rfl ?_
  refine xJ.getfield (o_Checker_workOutEqual 16 rfl) f_Checker_61 rfl rfl ?_
  refine xJ.iload_n (o_Checker_workOutEqual 17 rfl) rfl ?_
  refine xJ.iaload (o_Checker_workOutEqual 18 rfl) rfl h.1 ?_
  replace h := h.2
  refine xJ.iconst (v := 1) (o_Checker_workOutEqual 19 rfl) (by decide) ?_
  refine xJ.iadd (o_Checker_workOutEqual 20 rfl) ?_
  refine xJ.istore (o_Checker_workOutEqual 21 rfl) (by decide) ?_
  replace h := h _ rfl
  obtain ⟨m, h⟩ := h
  exact xJ.lvs (by exact ⟨rfl, rfl, rfl, rfl, rfl, rfl, trivial⟩) (sw_Checker_workOutEqual_36 m _ _ _ _ _ _ h)
def w_Checker_workOutDistinct_44 (Q : xO → xS → Prop) (K17 : Int32 → Int32 → Int32 → Int32 → xS → Prop) : Nat → Int32 → Int32 → Int32 → Int32 → Int32 → xS → Prop
  | 0 => fun _ _ _ _ _ _ => False
  | n + 1 => fun a1 a2 a3 a4 a5 σ =>
    ((a4 ≤ a5 → (∀ x5 : Int32, x5 = a4 + 1 → K17 a1 a2 a3 x5 σ)) ∧ (¬ a4 ≤ a5 → (vp_in a4 80000 ∧ (vp_in a5 80000 ∧ wp_Checker_isSurelySame (xqi (fun r7 u6 => (∀ x8 : Int32, x8 = (a2 ||| r7) → (vp_in a4 80000 ∧ (vp_in a5 80000 ∧ wp_Checker_isSurelyOther (xqi (fun r10 u9 => (∀ x11 : Int32, x11 = (a3 &&& r10) → (∀ x12 : Int32, x12 = a5 + 1 → w_Checker_workOutDistinct_44 Q K17 n a1 x8 x11 a4 x12 u9))) (fun n u => Q (.inr n) u)) u6 (xi u6 10 a4.toNatClampNeg) (xi u6 10 a5.toNatClampNeg))))) (fun n u => Q (.inr n) u)) σ (xi σ 10 a4.toNatClampNeg) (xi σ 10 a5.toNatClampNeg)))))
def w_Checker_workOutDistinct_17 (Q : xO → xS → Prop) : Nat → Int32 → Int32 → Int32 → Int32 → xS → Prop
  | 0 => fun _ _ _ _ _ => False
  | n + 1 => fun a1 a2 a3 a4 σ =>
    (vp_in (a1 + 1) 2001 ∧ (((xi σ 9 (a1 + 1).toNatClampNeg) ≤ a4 → wp_Checker_learnEither (xqv (fun u2 => Q (.inl none) u2) (fun n u => Q (.inr n) u)) σ a1 a3 a2) ∧ (¬ (xi σ 9 (a1 + 1).toNatClampNeg) ≤ a4 → (vp_in a1 2001 ∧ (∀ x4 : Int32, x4 = (xi σ 9 a1.toNatClampNeg) → ∃ m, w_Checker_workOutDistinct_44 Q (w_Checker_workOutDistinct_17 Q n) m a1 a2 a3 a4 x4 σ)))))
def wp_Checker_workOutDistinct (Q : xO → xS → Prop) (σ : xS) (a1 : Int32) : Prop :=
  (vp_in a1 2001 ∧ (∀ x1 : Int32, x1 = ((xi σ 9 a1.toNatClampNeg) + 1) → ∃ m, w_Checker_workOutDistinct_17 Q m a1 0 1 x1 σ))
set_option maxRecDepth 20000 in
theorem sw_Checker_workOutDistinct_44 {γ : xG1} {d b0 : Nat} {Q : xO → xS → Prop} {K17 : Int32 → Int32 → Int32 → Int32 → xS → Prop} (hK17 : ∀ a1 a2 a3 a4 σ, K17 a1 a2 a3 a4 σ → xJ (SHP, γ) Y_Checker_workOutDistinct (d + 2) b0 17 [(0, .ref 44), (1, .int a1), (2, .int a2), (3, .int a3), (4, .int a4)] [] σ Q) : ∀ (n : Nat) (a1 : Int32) (a2 : Int32) (a3 : Int32) (a4 : Int32) (a5 : Int32) (σ : xS), w_Checker_workOutDistinct_44 Q K17 n a1 a2 a3 a4 a5 σ → xJ (SHP, γ) Y_Checker_workOutDistinct (d + 2) b0 44 [(0, .ref 44), (1, .int a1), (2, .int a2), (3, .int a3), (4, .int a4), (5, .int a5)] [] σ Q := by
  intro n
  induction n with
  | zero => intro a1 a2 a3 a4 a5 σ h; exact h.elim
  | succ n ih =>
    intro a1 a2 a3 a4 a5 σ h
    refine xJ.iload (o_Checker_workOutDistinct 27 rfl) rfl ?_
    refine xJ.iload (o_Checker_workOutDistinct 28 rfl) rfl ?_
    refine xJ.icmp_ge (tgt := 111) (o_Checker_workOutDistinct 29 rfl) (by decide) (fun z => ?_) (fun z => ?_)
    · replace h := h.1 z
      refine xJ.iincC (w := 1) (o_Checker_workOutDistinct 62 rfl) rfl (by decide) (by decide) ?_
      replace h := h _ rfl
      refine xJ.goto (tgt := 17) (o_Checker_workOutDistinct 63 rfl) (by decide) ?_
      exact xJ.lvs (by exact ⟨rfl, rfl, rfl, rfl, rfl, trivial⟩) (hK17 _ _ _ _ _ h)
    · replace h := h.2 z
      refine xJ.iload_n (o_Checker_workOutDistinct 30 rfl) rfl ?_
      refine xJ.aload_n (o_Checker_workOutDistinct 31 rfl) rfl ?_
      refine xJ.aload_n (o_Checker_workOutDistinct 32 rfl) rfl ?_
      refine xJ.getfield (o_Checker_workOutDistinct 33 rfl) f_Checker_32 rfl rfl ?_
      refine xJ.getfield (o_Checker_workOutDistinct 34 rfl) f_Checker_74 rfl rfl ?_
      refine xJ.iload (o_Checker_workOutDistinct 35 rfl) rfl ?_
      refine xJ.iaload (o_Checker_workOutDistinct 36 rfl) rfl h.1 ?_
      replace h := h.2
      refine xJ.aload_n (o_Checker_workOutDistinct 37 rfl) rfl ?_
      refine xJ.getfield (o_Checker_workOutDistinct 38 rfl) f_Checker_32 rfl rfl ?_
      refine xJ.getfield (o_Checker_workOutDistinct 39 rfl) f_Checker_74 rfl rfl ?_
      refine xJ.iload (o_Checker_workOutDistinct 40 rfl) rfl ?_
      refine xJ.iaload (o_Checker_workOutDistinct 41 rfl) rfl h.1 ?_
      replace h := h.2
      refine xJ.callV (Y' := Y_Checker_isSurelySame) (o_Checker_workOutDistinct 42 rfl) m_Checker_135 y_Checker_isSurelySame im_Checker_isSurelySame se_Checker_isSurelySame rfl rfl (s_Checker_isSurelySame h) rfl rfl (Nat.le_of_ble_eq_true rfl) (fun _ hx => by cases hx) (fun v u q => ?_) (fun n u q => q)
      obtain ⟨r, rfl, h⟩ := xqi_get q
      refine xJ.ior (o_Checker_workOutDistinct 43 rfl) ?_
      refine xJ.istore_n (o_Checker_workOutDistinct 44 rfl) (by decide) ?_
      replace h := h _ rfl
      refine xJ.iload_n (o_Checker_workOutDistinct 45 rfl) rfl ?_
      refine xJ.aload_n (o_Checker_workOutDistinct 46 rfl) rfl ?_
      refine xJ.aload_n (o_Checker_workOutDistinct 47 rfl) rfl ?_
      refine xJ.getfield (o_Checker_workOutDistinct 48 rfl) f_Checker_32 rfl rfl ?_
      refine xJ.getfield (o_Checker_workOutDistinct 49 rfl) f_Checker_74 rfl rfl ?_
      refine xJ.iload (o_Checker_workOutDistinct 50 rfl) rfl ?_
      refine xJ.iaload (o_Checker_workOutDistinct 51 rfl) rfl h.1 ?_
      replace h := h.2
      refine xJ.aload_n (o_Checker_workOutDistinct 52 rfl) rfl ?_
      refine xJ.getfield (o_Checker_workOutDistinct 53 rfl) f_Checker_32 rfl rfl ?_
      refine xJ.getfield (o_Checker_workOutDistinct 54 rfl) f_Checker_74 rfl rfl ?_
      refine xJ.iload (o_Checker_workOutDistinct 55 rfl) rfl ?_
      refine xJ.iaload (o_Checker_workOutDistinct 56 rfl) rfl h.1 ?_
      replace h := h.2
      refine xJ.callV (Y' := Y_Checker_isSurelyOther) (o_Checker_workOutDistinct 57 rfl) m_Checker_139 y_Checker_isSurelyOther im_Checker_isSurelyOther se_Checker_isSurelyOther rfl rfl (s_Checker_isSurelyOther h) rfl rfl (Nat.le_of_ble_eq_true rfl) (fun _ hx => by cases hx) (fun v u q => ?_) (fun n u q => q)
      obtain ⟨r, rfl, h⟩ := xqi_get q
      refine xJ.iand (o_Checker_workOutDistinct 58 rfl) ?_
      refine xJ.istore_n (o_Checker_workOutDistinct 59 rfl) (by decide) ?_
      replace h := h _ rfl
      refine xJ.iincC (w := 1) (o_Checker_workOutDistinct 60 rfl) rfl (by decide) (by decide) ?_
      replace h := h _ rfl
      refine xJ.goto (tgt := 44) (o_Checker_workOutDistinct 61 rfl) (by decide) ?_
      exact xJ.lvs (by exact ⟨rfl, rfl, rfl, rfl, rfl, rfl, trivial⟩) (ih _ _ _ _ _ _ h)
set_option maxRecDepth 20000 in
theorem sw_Checker_workOutDistinct_17 {γ : xG1} {d b0 : Nat} {Q : xO → xS → Prop} : ∀ (n : Nat) (a1 : Int32) (a2 : Int32) (a3 : Int32) (a4 : Int32) (σ : xS), w_Checker_workOutDistinct_17 Q n a1 a2 a3 a4 σ → xJ (SHP, γ) Y_Checker_workOutDistinct (d + 2) b0 17 [(0, .ref 44), (1, .int a1), (2, .int a2), (3, .int a3), (4, .int a4)] [] σ Q := by
  intro n
  induction n with
  | zero => intro a1 a2 a3 a4 σ h; exact h.elim
  | succ n ih =>
    intro a1 a2 a3 a4 σ h
    refine xJ.iload (o_Checker_workOutDistinct 12 rfl) rfl ?_
    refine xJ.aload_n (o_Checker_workOutDistinct 13 rfl) rfl ?_
    refine xJ.getfield (o_Checker_workOutDistinct 14 rfl) f_Checker_32 rfl rfl ?_
    refine xJ.getfield (o_Checker_workOutDistinct 15 rfl) f_Checker_61 rfl rfl ?_
    refine xJ.iload_n (o_Checker_workOutDistinct 16 rfl) rfl ?_
    refine xJ.iconst (v := 1) (o_Checker_workOutDistinct 17 rfl) (by decide) ?_
    refine xJ.iadd (o_Checker_workOutDistinct 18 rfl) ?_
    refine xJ.iaload (o_Checker_workOutDistinct 19 rfl) rfl h.1 ?_
    replace h := h.2
    refine xJ.icmp_ge (tgt := 117) (o_Checker_workOutDistinct 20 rfl) (by decide) (fun z => ?_) (fun z => ?_)
    · replace h := h.1 z
      refine xJ.aload_n (o_Checker_workOutDistinct 64 rfl) rfl ?_
      refine xJ.iload_n (o_Checker_workOutDistinct 65 rfl) rfl ?_
      refine xJ.iload_n (o_Checker_workOutDistinct 66 rfl) rfl ?_
      refine xJ.iload_n (o_Checker_workOutDistinct 67 rfl) rfl ?_
      refine xJ.callV (Y' := Y_Checker_learnEither) (o_Checker_workOutDistinct 68 rfl) m_Checker_142 y_Checker_learnEither im_Checker_learnEither se_Checker_learnEither rfl rfl (s_Checker_learnEither h) rfl rfl (Nat.le_of_ble_eq_true rfl) (fun _ hx => by cases hx) (fun v u q => ?_) (fun n u q => q)
      obtain ⟨rfl, h⟩ := xqv_get q
      exact xJ.return_ (o_Checker_workOutDistinct 69 rfl) rfl h
    · replace h := h.2 z
      refine xJ.aload_n (o_Checker_workOutDistinct 21 rfl) rfl ?_
      refine xJ.getfield (o_Checker_workOutDistinct 22 rfl) f_Checker_32 rfl rfl ?_
      refine xJ.getfield (o_Checker_workOutDistinct 23 rfl) f_Checker_61 rfl rfl ?_
      refine xJ.iload_n (o_Checker_workOutDistinct 24 rfl) rfl ?_
      refine xJ.iaload (o_Checker_workOutDistinct 25 rfl) rfl h.1 ?_
      replace h := h.2
      refine xJ.istore (o_Checker_workOutDistinct 26 rfl) (by decide) ?_
      replace h := h _ rfl
      obtain ⟨m, h⟩ := h
      exact xJ.lvs (by exact ⟨rfl, rfl, rfl, rfl, rfl, rfl, trivial⟩) (sw_Checker_workOutDistinct_44 ih m _ _ _ _ _ _ h)
set_option maxRecDepth 20000 in
theorem s_Checker_workOutDistinct {γ : xG1} {d : Nat} {Q : xO → xS → Prop} {σ : xS} {a1 : Int32} (h : wp_Checker_workOutDistinct Q σ a1) : xM (SHP, γ) Y_Checker_workOutDistinct (d + 2) [.ref 44, .int a1] σ Q := by
  refine xM.of (by decide) (Nat.le_of_ble_eq_true rfl) ?_
  refine xJ.iconst (v := 0) (o_Checker_workOutDistinct 0 rfl) (by decide) ?_
  refine xJ.istore_n (o_Checker_workOutDistinct 1 rfl) (by decide) ?_
  refine xJ.iconst (v := 1) (o_Checker_workOutDistinct 2 rfl) (by decide) ?_
  refine xJ.istore_n (o_Checker_workOutDistinct 3 rfl) (by decide) ?_
  refine xJ.aload_n (o_Checker_workOutDistinct 4 rfl) rfl ?_
  refine xJ.getfield (o_Checker_workOutDistinct 5 rfl) f_Checker_32 rfl rfl ?_
  refine xJ.getfield (o_Checker_workOutDistinct 6 rfl) f_Checker_61 rfl rfl ?_
  refine xJ.iload_n (o_Checker_workOutDistinct 7 rfl) rfl ?_
  refine xJ.iaload (o_Checker_workOutDistinct 8 rfl) rfl h.1 ?_
  replace h := h.2
  refine xJ.iconst (v := 1) (o_Checker_workOutDistinct 9 rfl) (by decide) ?_
  refine xJ.iadd (o_Checker_workOutDistinct 10 rfl) ?_
  refine xJ.istore (o_Checker_workOutDistinct 11 rfl) (by decide) ?_
  replace h := h _ rfl
  obtain ⟨m, h⟩ := h
  exact xJ.lvs (by exact ⟨rfl, rfl, rfl, rfl, rfl, trivial⟩) (sw_Checker_workOutDistinct_17 m _ _ _ _ _ h)
def w_Checker_workOutSum_24 (Q : xO → xS → Prop) : Nat → Int32 → Int64 → Int64 → Int32 → xS → Prop
  | 0 => fun _ _ _ _ _ => False
  | n + 1 => fun a1 a2 a4 a6 σ =>
    (vp_in (a1 + 1) 2001 ∧ (((xi σ 9 (a1 + 1).toNatClampNeg) ≤ a6 → wp_Checker_learn (xqv (fun u3 => Q (.inl none) u3) (fun n u => Q (.inr n) u)) σ a1 a2 a4) ∧ (¬ (xi σ 9 (a1 + 1).toNatClampNeg) ≤ a6 → (vp_in a6 80000 ∧ (vp_in (xi σ 10 a6.toNatClampNeg) 2000 ∧ wp_Words_lowestRun (xql (fun r6 u5 => (∀ x7 : Int64, x7 = (a2 &&& r6) → (vp_in a6 80000 ∧ (vp_in (xi u5 10 a6.toNatClampNeg) 2000 ∧ (∀ x8 : Int64, x8 = (a4 + (xl u5 46 (xi u5 10 a6.toNatClampNeg).toNatClampNeg)) → (∀ x9 : Int32, x9 = a6 + 1 → w_Checker_workOutSum_24 Q n a1 x7 x8 x9 u5)))))) (fun n u => Q (.inr n) u)) σ (xl σ 45 (xi σ 10 a6.toNatClampNeg).toNatClampNeg))))))
def wp_Checker_workOutSum (Q : xO → xS → Prop) (σ : xS) (a1 : Int32) : Prop :=
  (vp_in a1 2000 ∧ (∀ x1 : Int64, x1 = (xl σ 13 a1.toNatClampNeg) → (vp_in a1 2001 ∧ (∀ x2 : Int32, x2 = (xi σ 9 a1.toNatClampNeg) → ∃ m, w_Checker_workOutSum_24 Q m a1 x1 0 x2 σ))))
set_option maxRecDepth 20000 in
theorem sw_Checker_workOutSum_24 {γ : xG1} {d b0 : Nat} {Q : xO → xS → Prop} : ∀ (n : Nat) (a1 : Int32) (a2 : Int64) (a4 : Int64) (a6 : Int32) (σ : xS), w_Checker_workOutSum_24 Q n a1 a2 a4 a6 σ → xJ (SHP, γ) Y_Checker_workOutSum (d + 1) b0 24 [(0, .ref 44), (1, .int a1), (2, .long a2), (4, .long a4), (6, .int a6)] [] σ Q := by
  intro n
  induction n with
  | zero => intro a1 a2 a4 a6 σ h; exact h.elim
  | succ n ih =>
    intro a1 a2 a4 a6 σ h
    refine xJ.iload (o_Checker_workOutSum 14 rfl) rfl ?_
    refine xJ.aload_n (o_Checker_workOutSum 15 rfl) rfl ?_
    refine xJ.getfield (o_Checker_workOutSum 16 rfl) f_Checker_32 rfl rfl ?_
    refine xJ.getfield (o_Checker_workOutSum 17 rfl) f_Checker_61 rfl rfl ?_
    refine xJ.iload_n (o_Checker_workOutSum 18 rfl) rfl ?_
    refine xJ.iconst (v := 1) (o_Checker_workOutSum 19 rfl) (by decide) ?_
    refine xJ.iadd (o_Checker_workOutSum 20 rfl) ?_
    refine xJ.iaload (o_Checker_workOutSum 21 rfl) rfl h.1 ?_
    replace h := h.2
    refine xJ.icmp_ge (tgt := 87) (o_Checker_workOutSum 22 rfl) (by decide) (fun z => ?_) (fun z => ?_)
    · replace h := h.1 z
      refine xJ.aload_n (o_Checker_workOutSum 48 rfl) rfl ?_
      refine xJ.iload_n (o_Checker_workOutSum 49 rfl) rfl ?_
      refine xJ.lload_n (o_Checker_workOutSum 50 rfl) rfl ?_
      refine xJ.lload (o_Checker_workOutSum 51 rfl) rfl ?_
      refine xJ.callV (Y' := Y_Checker_learn) (o_Checker_workOutSum 52 rfl) m_Checker_50 y_Checker_learn im_Checker_learn se_Checker_learn rfl rfl (s_Checker_learn h) rfl rfl (Nat.le_of_ble_eq_true rfl) (fun _ hx => by cases hx) (fun v u q => ?_) (fun n u q => q)
      obtain ⟨rfl, h⟩ := xqv_get q
      exact xJ.return_ (o_Checker_workOutSum 53 rfl) rfl h
    · replace h := h.2 z
      refine xJ.lload_n (o_Checker_workOutSum 23 rfl) rfl ?_
      refine xJ.aload_n (o_Checker_workOutSum 24 rfl) rfl ?_
      refine xJ.getfield (o_Checker_workOutSum 25 rfl) f_Checker_9 rfl rfl ?_
      refine xJ.aload_n (o_Checker_workOutSum 26 rfl) rfl ?_
      refine xJ.getfield (o_Checker_workOutSum 27 rfl) f_Checker_32 rfl rfl ?_
      refine xJ.getfield (o_Checker_workOutSum 28 rfl) f_Checker_74 rfl rfl ?_
      refine xJ.iload (o_Checker_workOutSum 29 rfl) rfl ?_
      refine xJ.iaload (o_Checker_workOutSum 30 rfl) rfl h.1 ?_
      replace h := h.2
      refine xJ.laload (o_Checker_workOutSum 31 rfl) rfl h.1 ?_
      replace h := h.2
      refine xJ.callS (Y' := Y_Words_lowestRun) (o_Checker_workOutSum 32 rfl) m_Checker_146 y_Words_lowestRun st_Words_lowestRun (s_Words_lowestRun h) rfl rfl (Nat.le_of_ble_eq_true rfl) (fun _ hx => by cases hx) (fun v u q => ?_) (fun n u q => q)
      obtain ⟨r, rfl, h⟩ := xql_get q
      refine xJ.land (o_Checker_workOutSum 33 rfl) ?_
      refine xJ.lstore_n (o_Checker_workOutSum 34 rfl) (by decide) ?_
      replace h := h _ rfl
      refine xJ.lload (o_Checker_workOutSum 35 rfl) rfl ?_
      refine xJ.aload_n (o_Checker_workOutSum 36 rfl) rfl ?_
      refine xJ.getfield (o_Checker_workOutSum 37 rfl) f_Checker_15 rfl rfl ?_
      refine xJ.aload_n (o_Checker_workOutSum 38 rfl) rfl ?_
      refine xJ.getfield (o_Checker_workOutSum 39 rfl) f_Checker_32 rfl rfl ?_
      refine xJ.getfield (o_Checker_workOutSum 40 rfl) f_Checker_74 rfl rfl ?_
      refine xJ.iload (o_Checker_workOutSum 41 rfl) rfl ?_
      refine xJ.iaload (o_Checker_workOutSum 42 rfl) rfl h.1 ?_
      replace h := h.2
      refine xJ.laload (o_Checker_workOutSum 43 rfl) rfl h.1 ?_
      replace h := h.2
      refine xJ.ladd (o_Checker_workOutSum 44 rfl) ?_
      refine xJ.lstore (o_Checker_workOutSum 45 rfl) (by decide) ?_
      replace h := h _ rfl
      refine xJ.iincC (w := 1) (o_Checker_workOutSum 46 rfl) rfl (by decide) (by decide) ?_
      replace h := h _ rfl
      refine xJ.goto (tgt := 24) (o_Checker_workOutSum 47 rfl) (by decide) ?_
      exact xJ.lvs (by exact ⟨rfl, rfl, rfl, rfl, rfl, trivial⟩) (ih _ _ _ _ _ h)
set_option maxRecDepth 20000 in
theorem s_Checker_workOutSum {γ : xG1} {d : Nat} {Q : xO → xS → Prop} {σ : xS} {a1 : Int32} (h : wp_Checker_workOutSum Q σ a1) : xM (SHP, γ) Y_Checker_workOutSum (d + 1) [.ref 44, .int a1] σ Q := by
  refine xM.of (by decide) (Nat.le_of_ble_eq_true rfl) ?_
  refine xJ.aload_n (o_Checker_workOutSum 0 rfl) rfl ?_
  refine xJ.getfield (o_Checker_workOutSum 1 rfl) f_Checker_32 rfl rfl ?_
  refine xJ.getfield (o_Checker_workOutSum 2 rfl) f_Checker_45 rfl rfl ?_
  refine xJ.iload_n (o_Checker_workOutSum 3 rfl) rfl ?_
  refine xJ.laload (o_Checker_workOutSum 4 rfl) rfl h.1 ?_
  replace h := h.2
  refine xJ.lstore_n (o_Checker_workOutSum 5 rfl) (by decide) ?_
  replace h := h _ rfl
  refine xJ.lconst (v := 0) (o_Checker_workOutSum 6 rfl) (by decide) ?_
  refine xJ.lstore (o_Checker_workOutSum 7 rfl) (by decide) ?_
  refine xJ.aload_n (o_Checker_workOutSum 8 rfl) rfl ?_
  refine xJ.getfield (o_Checker_workOutSum 9 rfl) f_Checker_32 rfl rfl ?_
  refine xJ.getfield (o_Checker_workOutSum 10 rfl) f_Checker_61 rfl rfl ?_
  refine xJ.iload_n (o_Checker_workOutSum 11 rfl) rfl ?_
  refine xJ.iaload (o_Checker_workOutSum 12 rfl) rfl h.1 ?_
  replace h := h.2
  refine xJ.istore (o_Checker_workOutSum 13 rfl) (by decide) ?_
  replace h := h _ rfl
  obtain ⟨m, h⟩ := h
  exact xJ.lvs (by exact ⟨rfl, rfl, rfl, rfl, rfl, trivial⟩) (sw_Checker_workOutSum_24 m _ _ _ _ _ h)
def wp_Long_bitCount (Q : xO → xS → Prop) (σ : xS) (a0 : Int64) : Prop :=
  (∀ x1 : Int64, x1 = (a0 - ((jlushr a0 1) &&& 6148914691236517205)) → (∀ x2 : Int64, x2 = ((x1 &&& 3689348814741910323) + ((jlushr x1 2) &&& 3689348814741910323)) → (∀ x3 : Int64, x3 = ((x2 + (jlushr x2 4)) &&& 1085102592571150095) → (∀ x4 : Int64, x4 = (x3 + (jlushr x3 8)) → (∀ x5 : Int64, x5 = (x4 + (jlushr x4 16)) → (∀ x6 : Int64, x6 = (x5 + (jlushr x5 32)) → Q (.inl (some (.int (x6.toInt32 &&& 127)))) σ))))))
set_option maxRecDepth 20000 in
theorem s_Long_bitCount {γ : xG1} {d : Nat} {Q : xO → xS → Prop} {σ : xS} {a0 : Int64} (h : wp_Long_bitCount Q σ a0) : xM (SHP, γ) Y_Long_bitCount (d + 0) [.long a0] σ Q := by
  refine xM.ofF (by decide +kernel) (Nat.le_of_ble_eq_true rfl) ?_
  refine xJ.lload_n (o_Long_bitCount 0 rfl) rfl ?_
  refine xJ.lload_n (o_Long_bitCount 1 rfl) rfl ?_
  refine xJ.iconst (v := 1) (o_Long_bitCount 2 rfl) (by decide) ?_
  refine xJ.lushr (o_Long_bitCount 3 rfl) rfl ?_
  refine xJ.ldc2 (v := 6148914691236517205) (o_Long_bitCount 4 rfl) k_Long_314 ?_
  refine xJ.land (o_Long_bitCount 5 rfl) ?_
  refine xJ.lsub (o_Long_bitCount 6 rfl) ?_
  refine xJ.lstore_n (o_Long_bitCount 7 rfl) (by decide) ?_
  replace h := h _ rfl
  refine xJ.lload_n (o_Long_bitCount 8 rfl) rfl ?_
  refine xJ.ldc2 (v := 3689348814741910323) (o_Long_bitCount 9 rfl) k_Long_316 ?_
  refine xJ.land (o_Long_bitCount 10 rfl) ?_
  refine xJ.lload_n (o_Long_bitCount 11 rfl) rfl ?_
  refine xJ.iconst (v := 2) (o_Long_bitCount 12 rfl) (by decide) ?_
  refine xJ.lushr (o_Long_bitCount 13 rfl) rfl ?_
  refine xJ.ldc2 (v := 3689348814741910323) (o_Long_bitCount 14 rfl) k_Long_316 ?_
  refine xJ.land (o_Long_bitCount 15 rfl) ?_
  refine xJ.ladd (o_Long_bitCount 16 rfl) ?_
  refine xJ.lstore_n (o_Long_bitCount 17 rfl) (by decide) ?_
  replace h := h _ rfl
  refine xJ.lload_n (o_Long_bitCount 18 rfl) rfl ?_
  refine xJ.lload_n (o_Long_bitCount 19 rfl) rfl ?_
  refine xJ.iconst (v := 4) (o_Long_bitCount 20 rfl) (by decide) ?_
  refine xJ.lushr (o_Long_bitCount 21 rfl) rfl ?_
  refine xJ.ladd (o_Long_bitCount 22 rfl) ?_
  refine xJ.ldc2 (v := 1085102592571150095) (o_Long_bitCount 23 rfl) k_Long_318 ?_
  refine xJ.land (o_Long_bitCount 24 rfl) ?_
  refine xJ.lstore_n (o_Long_bitCount 25 rfl) (by decide) ?_
  replace h := h _ rfl
  refine xJ.lload_n (o_Long_bitCount 26 rfl) rfl ?_
  refine xJ.lload_n (o_Long_bitCount 27 rfl) rfl ?_
  refine xJ.bipush (v := 8) (o_Long_bitCount 28 rfl) (by decide) ?_
  refine xJ.lushr (o_Long_bitCount 29 rfl) rfl ?_
  refine xJ.ladd (o_Long_bitCount 30 rfl) ?_
  refine xJ.lstore_n (o_Long_bitCount 31 rfl) (by decide) ?_
  replace h := h _ rfl
  refine xJ.lload_n (o_Long_bitCount 32 rfl) rfl ?_
  refine xJ.lload_n (o_Long_bitCount 33 rfl) rfl ?_
  refine xJ.bipush (v := 16) (o_Long_bitCount 34 rfl) (by decide) ?_
  refine xJ.lushr (o_Long_bitCount 35 rfl) rfl ?_
  refine xJ.ladd (o_Long_bitCount 36 rfl) ?_
  refine xJ.lstore_n (o_Long_bitCount 37 rfl) (by decide) ?_
  replace h := h _ rfl
  refine xJ.lload_n (o_Long_bitCount 38 rfl) rfl ?_
  refine xJ.lload_n (o_Long_bitCount 39 rfl) rfl ?_
  refine xJ.bipush (v := 32) (o_Long_bitCount 40 rfl) (by decide) ?_
  refine xJ.lushr (o_Long_bitCount 41 rfl) rfl ?_
  refine xJ.ladd (o_Long_bitCount 42 rfl) ?_
  refine xJ.lstore_n (o_Long_bitCount 43 rfl) (by decide) ?_
  replace h := h _ rfl
  refine xJ.lload_n (o_Long_bitCount 44 rfl) rfl ?_
  refine xJ.l2i (o_Long_bitCount 45 rfl) rfl ?_
  refine xJ.bipush (v := 127) (o_Long_bitCount 46 rfl) (by decide) ?_
  refine xJ.iand (o_Long_bitCount 47 rfl) ?_
  exact xJ.ireturn (o_Long_bitCount 48 rfl) rfl h
def w_Checker_workOutProduct_24 (Q : xO → xS → Prop) : Nat → Int32 → Int64 → Int64 → Int32 → xS → Prop
  | 0 => fun _ _ _ _ _ => False
  | n + 1 => fun a1 a2 a4 a6 σ =>
    (vp_in (a1 + 1) 2001 ∧ (((xi σ 9 (a1 + 1).toNatClampNeg) ≤ a6 → wp_Checker_learn (xqv (fun u3 => Q (.inl none) u3) (fun n u => Q (.inr n) u)) σ a1 a2 a4) ∧ (¬ (xi σ 9 (a1 + 1).toNatClampNeg) ≤ a6 → (vp_in a6 80000 ∧ (∀ x5 : Int32, x5 = (xi σ 10 a6.toNatClampNeg) → (vp_in x5 2000 ∧ wp_Words_lowestRun (xql (fun r7 u6 => (vp_in x5 2000 ∧ (vp_in x5 2000 ∧ wp_Words_lowestRun (xql (fun r9 u8 => wp_Long_bitCount (xqi (fun r11 u10 => wp_Words_lowestRun (xql (fun r13 u12 => wp_Long_bitCount (xqi (fun r15 u14 => wp_Long_bitCount (xqi (fun r17 u16 => wp_Long_bitCount (xqi (fun r19 u18 => wp_Math_min (xqi (fun r21 u20 => (vp_in x5 2000 ∧ (∀ x22 : Int64, x22 = ((a4 &&& a2) * ((xl u20 46 x5.toNatClampNeg) &&& r7)) → wp_Words_mask (xql (fun r24 u23 => (vp_in a1 2000 ∧ (∀ x25 : Int64, x25 = (r24 &&& (xl u23 13 a1.toNatClampNeg)) → (∀ x26 : Int32, x26 = a6 + 1 → w_Checker_workOutProduct_24 Q n a1 x25 x22 x26 u23)))) (fun n u => Q (.inr n) u)) u20 r21))) (fun n u => Q (.inr n) u)) u18 (r17 + r11) (r19 + r15)) (fun n u => Q (.inr n) u)) u16 r7) (fun n u => Q (.inr n) u)) u14 a2) (fun n u => Q (.inr n) u)) u12 r13) (fun n u => Q (.inr n) u)) u10 (a2 &&& (a4 ^^^ (-1)))) (fun n u => Q (.inr n) u)) u8 r9) (fun n u => Q (.inr n) u)) u6 ((xl u6 45 x5.toNatClampNeg) &&& ((xl u6 46 x5.toNatClampNeg) ^^^ (-1)))))) (fun n u => Q (.inr n) u)) σ (xl σ 45 x5.toNatClampNeg)))))))
def wp_Checker_workOutProduct (Q : xO → xS → Prop) (σ : xS) (a1 : Int32) : Prop :=
  (vp_in a1 2000 ∧ (∀ x1 : Int64, x1 = (xl σ 13 a1.toNatClampNeg) → (vp_in a1 2001 ∧ (∀ x2 : Int32, x2 = (xi σ 9 a1.toNatClampNeg) → ∃ m, w_Checker_workOutProduct_24 Q m a1 x1 1 x2 σ))))
set_option maxRecDepth 20000 in
theorem sw_Checker_workOutProduct_24 {γ : xG1} {d b0 : Nat} {Q : xO → xS → Prop} : ∀ (n : Nat) (a1 : Int32) (a2 : Int64) (a4 : Int64) (a6 : Int32) (σ : xS), w_Checker_workOutProduct_24 Q n a1 a2 a4 a6 σ → xJ (SHP, γ) Y_Checker_workOutProduct (d + 1) b0 24 [(0, .ref 44), (1, .int a1), (2, .long a2), (4, .long a4), (6, .int a6)] [] σ Q := by
  intro n
  induction n with
  | zero => intro a1 a2 a4 a6 σ h; exact h.elim
  | succ n ih =>
    intro a1 a2 a4 a6 σ h
    refine xJ.iload (o_Checker_workOutProduct 14 rfl) rfl ?_
    refine xJ.aload_n (o_Checker_workOutProduct 15 rfl) rfl ?_
    refine xJ.getfield (o_Checker_workOutProduct 16 rfl) f_Checker_32 rfl rfl ?_
    refine xJ.getfield (o_Checker_workOutProduct 17 rfl) f_Checker_61 rfl rfl ?_
    refine xJ.iload_n (o_Checker_workOutProduct 18 rfl) rfl ?_
    refine xJ.iconst (v := 1) (o_Checker_workOutProduct 19 rfl) (by decide) ?_
    refine xJ.iadd (o_Checker_workOutProduct 20 rfl) ?_
    refine xJ.iaload (o_Checker_workOutProduct 21 rfl) rfl h.1 ?_
    replace h := h.2
    refine xJ.icmp_ge (tgt := 166) (o_Checker_workOutProduct 22 rfl) (by decide) (fun z => ?_) (fun z => ?_)
    · replace h := h.1 z
      refine xJ.aload_n (o_Checker_workOutProduct 89 rfl) rfl ?_
      refine xJ.iload_n (o_Checker_workOutProduct 90 rfl) rfl ?_
      refine xJ.lload_n (o_Checker_workOutProduct 91 rfl) rfl ?_
      refine xJ.lload (o_Checker_workOutProduct 92 rfl) rfl ?_
      refine xJ.callV (Y' := Y_Checker_learn) (o_Checker_workOutProduct 93 rfl) m_Checker_50 y_Checker_learn im_Checker_learn se_Checker_learn rfl rfl (s_Checker_learn h) rfl rfl (Nat.le_of_ble_eq_true rfl) (fun _ hx => by cases hx) (fun v u q => ?_) (fun n u q => q)
      obtain ⟨rfl, h⟩ := xqv_get q
      exact xJ.return_ (o_Checker_workOutProduct 94 rfl) rfl h
    · replace h := h.2 z
      refine xJ.aload_n (o_Checker_workOutProduct 23 rfl) rfl ?_
      refine xJ.getfield (o_Checker_workOutProduct 24 rfl) f_Checker_32 rfl rfl ?_
      refine xJ.getfield (o_Checker_workOutProduct 25 rfl) f_Checker_74 rfl rfl ?_
      refine xJ.iload (o_Checker_workOutProduct 26 rfl) rfl ?_
      refine xJ.iaload (o_Checker_workOutProduct 27 rfl) rfl h.1 ?_
      replace h := h.2
      refine xJ.istore (o_Checker_workOutProduct 28 rfl) (by decide) ?_
      replace h := h _ rfl
      refine xJ.aload_n (o_Checker_workOutProduct 29 rfl) rfl ?_
      refine xJ.getfield (o_Checker_workOutProduct 30 rfl) f_Checker_9 rfl rfl ?_
      refine xJ.iload (o_Checker_workOutProduct 31 rfl) rfl ?_
      refine xJ.laload (o_Checker_workOutProduct 32 rfl) rfl h.1 ?_
      replace h := h.2
      refine xJ.callS (Y' := Y_Words_lowestRun) (o_Checker_workOutProduct 33 rfl) m_Checker_146 y_Words_lowestRun st_Words_lowestRun (s_Words_lowestRun h) rfl rfl (Nat.le_of_ble_eq_true rfl) (fun _ hx => by cases hx) (fun v u q => ?_) (fun n u q => q)
      obtain ⟨r, rfl, h⟩ := xql_get q
      refine xJ.lstore (o_Checker_workOutProduct 34 rfl) (by decide) ?_
      refine xJ.aload_n (o_Checker_workOutProduct 35 rfl) rfl ?_
      refine xJ.getfield (o_Checker_workOutProduct 36 rfl) f_Checker_9 rfl rfl ?_
      refine xJ.iload (o_Checker_workOutProduct 37 rfl) rfl ?_
      refine xJ.laload (o_Checker_workOutProduct 38 rfl) rfl h.1 ?_
      replace h := h.2
      refine xJ.aload_n (o_Checker_workOutProduct 39 rfl) rfl ?_
      refine xJ.getfield (o_Checker_workOutProduct 40 rfl) f_Checker_15 rfl rfl ?_
      refine xJ.iload (o_Checker_workOutProduct 41 rfl) rfl ?_
      refine xJ.laload (o_Checker_workOutProduct 42 rfl) rfl h.1 ?_
      replace h := h.2
      refine xJ.ldc2 (v := (-1)) (o_Checker_workOutProduct 43 rfl) k_Checker_77 ?_
      refine xJ.lxor (o_Checker_workOutProduct 44 rfl) ?_
      refine xJ.land (o_Checker_workOutProduct 45 rfl) ?_
      refine xJ.callS (Y' := Y_Words_lowestRun) (o_Checker_workOutProduct 46 rfl) m_Checker_146 y_Words_lowestRun st_Words_lowestRun (s_Words_lowestRun h) rfl rfl (Nat.le_of_ble_eq_true rfl) (fun _ hx => by cases hx) (fun v u q => ?_) (fun n u q => q)
      obtain ⟨r, rfl, h⟩ := xql_get q
      refine xJ.callS (Y' := Y_Long_bitCount) (o_Checker_workOutProduct 47 rfl) m_Checker_152 y_Long_bitCount st_Long_bitCount (s_Long_bitCount h) rfl rfl (Nat.le_of_ble_eq_true rfl) (fun _ hx => by cases hx) (fun v u q => ?_) (fun n u q => q)
      obtain ⟨r, rfl, h⟩ := xqi_get q
      refine xJ.istore (o_Checker_workOutProduct 48 rfl) (by decide) ?_
      refine xJ.lload_n (o_Checker_workOutProduct 49 rfl) rfl ?_
      refine xJ.lload (o_Checker_workOutProduct 50 rfl) rfl ?_
      refine xJ.ldc2 (v := (-1)) (o_Checker_workOutProduct 51 rfl) k_Checker_77 ?_
      refine xJ.lxor (o_Checker_workOutProduct 52 rfl) ?_
      refine xJ.land (o_Checker_workOutProduct 53 rfl) ?_
      refine xJ.callS (Y' := Y_Words_lowestRun) (o_Checker_workOutProduct 54 rfl) m_Checker_146 y_Words_lowestRun st_Words_lowestRun (s_Words_lowestRun h) rfl rfl (Nat.le_of_ble_eq_true rfl) (fun _ hx => by cases hx) (fun v u q => ?_) (fun n u q => q)
      obtain ⟨r, rfl, h⟩ := xql_get q
      refine xJ.callS (Y' := Y_Long_bitCount) (o_Checker_workOutProduct 55 rfl) m_Checker_152 y_Long_bitCount st_Long_bitCount (s_Long_bitCount h) rfl rfl (Nat.le_of_ble_eq_true rfl) (fun _ hx => by cases hx) (fun v u q => ?_) (fun n u q => q)
      obtain ⟨r, rfl, h⟩ := xqi_get q
      refine xJ.istore (o_Checker_workOutProduct 56 rfl) (by decide) ?_
      refine xJ.lload_n (o_Checker_workOutProduct 57 rfl) rfl ?_
      refine xJ.callS (Y' := Y_Long_bitCount) (o_Checker_workOutProduct 58 rfl) m_Checker_152 y_Long_bitCount st_Long_bitCount (s_Long_bitCount h) rfl rfl (Nat.le_of_ble_eq_true rfl) (fun _ hx => by cases hx) (fun v u q => ?_) (fun n u q => q)
      obtain ⟨r, rfl, h⟩ := xqi_get q
      refine xJ.iload (o_Checker_workOutProduct 59 rfl) rfl ?_
      refine xJ.iadd (o_Checker_workOutProduct 60 rfl) ?_
      refine xJ.lload (o_Checker_workOutProduct 61 rfl) rfl ?_
      refine xJ.callS (Y' := Y_Long_bitCount) (o_Checker_workOutProduct 62 rfl) m_Checker_152 y_Long_bitCount st_Long_bitCount (s_Long_bitCount h) rfl rfl (Nat.le_of_ble_eq_true rfl) (fun _ hx => by cases hx) (fun v u q => ?_) (fun n u q => q)
      obtain ⟨r, rfl, h⟩ := xqi_get q
      refine xJ.iload (o_Checker_workOutProduct 63 rfl) rfl ?_
      refine xJ.iadd (o_Checker_workOutProduct 64 rfl) ?_
      refine xJ.callS (Y' := Y_Math_min) (o_Checker_workOutProduct 65 rfl) m_Checker_158 y_Math_min st_Math_min (s_Math_min h) rfl rfl (Nat.le_of_ble_eq_true rfl) (fun _ hx => by cases hx) (fun v u q => ?_) (fun n u q => q)
      obtain ⟨r, rfl, h⟩ := xqi_get q
      refine xJ.istore (o_Checker_workOutProduct 66 rfl) (by decide) ?_
      refine xJ.lload (o_Checker_workOutProduct 67 rfl) rfl ?_
      refine xJ.lload_n (o_Checker_workOutProduct 68 rfl) rfl ?_
      refine xJ.land (o_Checker_workOutProduct 69 rfl) ?_
      refine xJ.aload_n (o_Checker_workOutProduct 70 rfl) rfl ?_
      refine xJ.getfield (o_Checker_workOutProduct 71 rfl) f_Checker_15 rfl rfl ?_
      refine xJ.iload (o_Checker_workOutProduct 72 rfl) rfl ?_
      refine xJ.laload (o_Checker_workOutProduct 73 rfl) rfl h.1 ?_
      replace h := h.2
      refine xJ.lload (o_Checker_workOutProduct 74 rfl) rfl ?_
      refine xJ.land (o_Checker_workOutProduct 75 rfl) ?_
      refine xJ.lmul (o_Checker_workOutProduct 76 rfl) ?_
      refine xJ.lstore (o_Checker_workOutProduct 77 rfl) (by decide) ?_
      replace h := h _ rfl
      refine xJ.iload (o_Checker_workOutProduct 78 rfl) rfl ?_
      refine xJ.callS (Y' := Y_Words_mask) (o_Checker_workOutProduct 79 rfl) m_Checker_163 y_Words_mask st_Words_mask (s_Words_mask h) rfl rfl (Nat.le_of_ble_eq_true rfl) (fun _ hx => by cases hx) (fun v u q => ?_) (fun n u q => q)
      obtain ⟨r, rfl, h⟩ := xql_get q
      refine xJ.aload_n (o_Checker_workOutProduct 80 rfl) rfl ?_
      refine xJ.getfield (o_Checker_workOutProduct 81 rfl) f_Checker_32 rfl rfl ?_
      refine xJ.getfield (o_Checker_workOutProduct 82 rfl) f_Checker_45 rfl rfl ?_
      refine xJ.iload_n (o_Checker_workOutProduct 83 rfl) rfl ?_
      refine xJ.laload (o_Checker_workOutProduct 84 rfl) rfl h.1 ?_
      replace h := h.2
      refine xJ.land (o_Checker_workOutProduct 85 rfl) ?_
      refine xJ.lstore_n (o_Checker_workOutProduct 86 rfl) (by decide) ?_
      replace h := h _ rfl
      refine xJ.iincC (w := 1) (o_Checker_workOutProduct 87 rfl) rfl (by decide) (by decide) ?_
      replace h := h _ rfl
      refine xJ.goto (tgt := 24) (o_Checker_workOutProduct 88 rfl) (by decide) ?_
      exact xJ.lvs (by exact ⟨rfl, rfl, rfl, rfl, rfl, trivial⟩) (ih _ _ _ _ _ h)
set_option maxRecDepth 20000 in
theorem s_Checker_workOutProduct {γ : xG1} {d : Nat} {Q : xO → xS → Prop} {σ : xS} {a1 : Int32} (h : wp_Checker_workOutProduct Q σ a1) : xM (SHP, γ) Y_Checker_workOutProduct (d + 1) [.ref 44, .int a1] σ Q := by
  refine xM.of (by decide) (Nat.le_of_ble_eq_true rfl) ?_
  refine xJ.aload_n (o_Checker_workOutProduct 0 rfl) rfl ?_
  refine xJ.getfield (o_Checker_workOutProduct 1 rfl) f_Checker_32 rfl rfl ?_
  refine xJ.getfield (o_Checker_workOutProduct 2 rfl) f_Checker_45 rfl rfl ?_
  refine xJ.iload_n (o_Checker_workOutProduct 3 rfl) rfl ?_
  refine xJ.laload (o_Checker_workOutProduct 4 rfl) rfl h.1 ?_
  replace h := h.2
  refine xJ.lstore_n (o_Checker_workOutProduct 5 rfl) (by decide) ?_
  replace h := h _ rfl
  refine xJ.lconst (v := 1) (o_Checker_workOutProduct 6 rfl) (by decide) ?_
  refine xJ.lstore (o_Checker_workOutProduct 7 rfl) (by decide) ?_
  refine xJ.aload_n (o_Checker_workOutProduct 8 rfl) rfl ?_
  refine xJ.getfield (o_Checker_workOutProduct 9 rfl) f_Checker_32 rfl rfl ?_
  refine xJ.getfield (o_Checker_workOutProduct 10 rfl) f_Checker_61 rfl rfl ?_
  refine xJ.iload_n (o_Checker_workOutProduct 11 rfl) rfl ?_
  refine xJ.iaload (o_Checker_workOutProduct 12 rfl) rfl h.1 ?_
  replace h := h.2
  refine xJ.istore (o_Checker_workOutProduct 13 rfl) (by decide) ?_
  replace h := h _ rfl
  obtain ⟨m, h⟩ := h
  exact xJ.lvs (by exact ⟨rfl, rfl, rfl, rfl, rfl, trivial⟩) (sw_Checker_workOutProduct_24 m _ _ _ _ _ h)
def wp_Checker_workOutDifference (Q : xO → xS → Prop) (σ : xS) (a1 : Int32) (a2 : Int32) (a3 : Int32) : Prop :=
  (vp_in a2 2000 ∧ (vp_in a3 2000 ∧ wp_Words_lowestRun (xql (fun r2 u1 => (vp_in a2 2000 ∧ (vp_in a3 2000 ∧ wp_Checker_learn (xqv (fun u3 => Q (.inl none) u3) (fun n u => Q (.inr n) u)) u1 a1 r2 ((xl u1 46 a2.toNatClampNeg) - (xl u1 46 a3.toNatClampNeg))))) (fun n u => Q (.inr n) u)) σ ((xl σ 45 a2.toNatClampNeg) &&& (xl σ 45 a3.toNatClampNeg))))
set_option maxRecDepth 20000 in
theorem s_Checker_workOutDifference {γ : xG1} {d : Nat} {Q : xO → xS → Prop} {σ : xS} {a1 : Int32} {a2 : Int32} {a3 : Int32} (h : wp_Checker_workOutDifference Q σ a1 a2 a3) : xM (SHP, γ) Y_Checker_workOutDifference (d + 1) [.ref 44, .int a1, .int a2, .int a3] σ Q := by
  refine xM.of (by decide) (Nat.le_of_ble_eq_true rfl) ?_
  refine xJ.aload_n (o_Checker_workOutDifference 0 rfl) rfl ?_
  refine xJ.iload_n (o_Checker_workOutDifference 1 rfl) rfl ?_
  refine xJ.aload_n (o_Checker_workOutDifference 2 rfl) rfl ?_
  refine xJ.getfield (o_Checker_workOutDifference 3 rfl) f_Checker_9 rfl rfl ?_
  refine xJ.iload_n (o_Checker_workOutDifference 4 rfl) rfl ?_
  refine xJ.laload (o_Checker_workOutDifference 5 rfl) rfl h.1 ?_
  replace h := h.2
  refine xJ.aload_n (o_Checker_workOutDifference 6 rfl) rfl ?_
  refine xJ.getfield (o_Checker_workOutDifference 7 rfl) f_Checker_9 rfl rfl ?_
  refine xJ.iload_n (o_Checker_workOutDifference 8 rfl) rfl ?_
  refine xJ.laload (o_Checker_workOutDifference 9 rfl) rfl h.1 ?_
  replace h := h.2
  refine xJ.land (o_Checker_workOutDifference 10 rfl) ?_
  refine xJ.callS (Y' := Y_Words_lowestRun) (o_Checker_workOutDifference 11 rfl) m_Checker_146 y_Words_lowestRun st_Words_lowestRun (s_Words_lowestRun h) rfl rfl (Nat.le_of_ble_eq_true rfl) (fun _ hx => by cases hx) (fun v u q => ?_) (fun n u q => q)
  obtain ⟨r, rfl, h⟩ := xql_get q
  refine xJ.aload_n (o_Checker_workOutDifference 12 rfl) rfl ?_
  refine xJ.getfield (o_Checker_workOutDifference 13 rfl) f_Checker_15 rfl rfl ?_
  refine xJ.iload_n (o_Checker_workOutDifference 14 rfl) rfl ?_
  refine xJ.laload (o_Checker_workOutDifference 15 rfl) rfl h.1 ?_
  replace h := h.2
  refine xJ.aload_n (o_Checker_workOutDifference 16 rfl) rfl ?_
  refine xJ.getfield (o_Checker_workOutDifference 17 rfl) f_Checker_15 rfl rfl ?_
  refine xJ.iload_n (o_Checker_workOutDifference 18 rfl) rfl ?_
  refine xJ.laload (o_Checker_workOutDifference 19 rfl) rfl h.1 ?_
  replace h := h.2
  refine xJ.lsub (o_Checker_workOutDifference 20 rfl) ?_
  refine xJ.callV (Y' := Y_Checker_learn) (o_Checker_workOutDifference 21 rfl) m_Checker_50 y_Checker_learn im_Checker_learn se_Checker_learn rfl rfl (s_Checker_learn h) rfl rfl (Nat.le_of_ble_eq_true rfl) (fun _ hx => by cases hx) (fun v u q => ?_) (fun n u q => q)
  obtain ⟨rfl, h⟩ := xqv_get q
  exact xJ.return_ (o_Checker_workOutDifference 22 rfl) rfl h
def w_Checker_workOutDivision_66 (Q : xO → xS → Prop) (a1 : Int32) (σ : xS) : Prop :=
  wp_Checker_learn (xqv (fun u3 => Q (.inl none) u3) (fun n u => Q (.inr n) u)) σ a1 0 0
def wp_Checker_workOutDivision (Q : xO → xS → Prop) (σ : xS) (a1 : Int32) (a2 : Int32) (a3 : Int32) : Prop :=
  wp_Checker_isKnown (xqi (fun r2 u1 => ((r2 = 0 → w_Checker_workOutDivision_66 Q a1 u1) ∧ (¬ r2 = 0 → wp_Checker_isKnown (xqi (fun r6 u5 => ((r6 = 0 → w_Checker_workOutDivision_66 Q a1 u5) ∧ (¬ r6 = 0 → (vp_in a1 2000 ∧ (vp_in a1 2000 ∧ (vp_in a2 2000 ∧ (vp_in a3 2000 ∧ (vp_in a1 2000 ∧ wp_Words_two (xql (fun r8 u7 => wp_Checker_learn (xqv (fun u9 => Q (.inl none) u9) (fun n u => Q (.inr n) u)) u7 a1 (xl u5 13 a1.toNatClampNeg) r8) (fun n u => Q (.inr n) u)) u5 (xi u5 7 a1.toNatClampNeg) (xl u5 46 a2.toNatClampNeg) (xl u5 46 a3.toNatClampNeg) (xi u5 8 a1.toNatClampNeg))))))))) (fun n u => Q (.inr n) u)) u1 a3))) (fun n u => Q (.inr n) u)) σ a2
set_option maxRecDepth 20000 in
theorem sw_Checker_workOutDivision_66 {γ : xG1} {d b0 : Nat} {Q : xO → xS → Prop} {a1 : Int32} {σ : xS} (h : w_Checker_workOutDivision_66 Q a1 σ) : xJ (SHP, γ) Y_Checker_workOutDivision (d + 2) b0 66 [(0, .ref 44), (1, .int a1)] [] σ Q := by
  refine xJ.aload_n (o_Checker_workOutDivision 36 rfl) rfl ?_
  refine xJ.iload_n (o_Checker_workOutDivision 37 rfl) rfl ?_
  refine xJ.lconst (v := 0) (o_Checker_workOutDivision 38 rfl) (by decide) ?_
  refine xJ.lconst (v := 0) (o_Checker_workOutDivision 39 rfl) (by decide) ?_
  refine xJ.callV (Y' := Y_Checker_learn) (o_Checker_workOutDivision 40 rfl) m_Checker_50 y_Checker_learn im_Checker_learn se_Checker_learn rfl rfl (s_Checker_learn h) rfl rfl (Nat.le_of_ble_eq_true rfl) (fun _ hx => by cases hx) (fun v u q => ?_) (fun n u q => q)
  obtain ⟨rfl, h⟩ := xqv_get q
  exact xJ.return_ (o_Checker_workOutDivision 41 rfl) rfl h
set_option maxRecDepth 20000 in
theorem s_Checker_workOutDivision {γ : xG1} {d : Nat} {Q : xO → xS → Prop} {σ : xS} {a1 : Int32} {a2 : Int32} {a3 : Int32} (h : wp_Checker_workOutDivision Q σ a1 a2 a3) : xM (SHP, γ) Y_Checker_workOutDivision (d + 2) [.ref 44, .int a1, .int a2, .int a3] σ Q := by
  refine xM.of (by decide) (Nat.le_of_ble_eq_true rfl) ?_
  refine xJ.aload_n (o_Checker_workOutDivision 0 rfl) rfl ?_
  refine xJ.iload_n (o_Checker_workOutDivision 1 rfl) rfl ?_
  refine xJ.callV (Y' := Y_Checker_isKnown) (o_Checker_workOutDivision 2 rfl) m_Checker_131 y_Checker_isKnown im_Checker_isKnown se_Checker_isKnown rfl rfl (s_Checker_isKnown h) rfl rfl (Nat.le_of_ble_eq_true rfl) (fun _ hx => by cases hx) (fun v u q => ?_) (fun n u q => q)
  obtain ⟨r, rfl, h⟩ := xqi_get q
  refine xJ.if_eq (tgt := 66) (o_Checker_workOutDivision 3 rfl) (by decide) (fun z => ?_) (fun z => ?_)
  · replace h := h.1 z
    exact xJ.lvs (by exact ⟨rfl, rfl, trivial⟩) (sw_Checker_workOutDivision_66 h)
  · replace h := h.2 z
    refine xJ.aload_n (o_Checker_workOutDivision 4 rfl) rfl ?_
    refine xJ.iload_n (o_Checker_workOutDivision 5 rfl) rfl ?_
    refine xJ.callV (Y' := Y_Checker_isKnown) (o_Checker_workOutDivision 6 rfl) m_Checker_131 y_Checker_isKnown im_Checker_isKnown se_Checker_isKnown rfl rfl (s_Checker_isKnown h) rfl rfl (Nat.le_of_ble_eq_true rfl) (fun _ hx => by cases hx) (fun v u q => ?_) (fun n u q => q)
    obtain ⟨r, rfl, h⟩ := xqi_get q
    refine xJ.if_eq (tgt := 66) (o_Checker_workOutDivision 7 rfl) (by decide) (fun z => ?_) (fun z => ?_)
    · replace h := h.1 z
      exact xJ.lvs (by exact ⟨rfl, rfl, trivial⟩) (sw_Checker_workOutDivision_66 h)
    · replace h := h.2 z
      refine xJ.aload_n (o_Checker_workOutDivision 8 rfl) rfl ?_
      refine xJ.iload_n (o_Checker_workOutDivision 9 rfl) rfl ?_
      refine xJ.aload_n (o_Checker_workOutDivision 10 rfl) rfl ?_
      refine xJ.getfield (o_Checker_workOutDivision 11 rfl) f_Checker_32 rfl rfl ?_
      refine xJ.getfield (o_Checker_workOutDivision 12 rfl) f_Checker_45 rfl rfl ?_
      refine xJ.iload_n (o_Checker_workOutDivision 13 rfl) rfl ?_
      refine xJ.laload (o_Checker_workOutDivision 14 rfl) rfl h.1 ?_
      replace h := h.2
      refine xJ.aload_n (o_Checker_workOutDivision 15 rfl) rfl ?_
      refine xJ.getfield (o_Checker_workOutDivision 16 rfl) f_Checker_32 rfl rfl ?_
      refine xJ.getfield (o_Checker_workOutDivision 17 rfl) f_Checker_68 rfl rfl ?_
      refine xJ.iload_n (o_Checker_workOutDivision 18 rfl) rfl ?_
      refine xJ.iaload (o_Checker_workOutDivision 19 rfl) rfl h.1 ?_
      replace h := h.2
      refine xJ.aload_n (o_Checker_workOutDivision 20 rfl) rfl ?_
      refine xJ.getfield (o_Checker_workOutDivision 21 rfl) f_Checker_15 rfl rfl ?_
      refine xJ.iload_n (o_Checker_workOutDivision 22 rfl) rfl ?_
      refine xJ.laload (o_Checker_workOutDivision 23 rfl) rfl h.1 ?_
      replace h := h.2
      refine xJ.aload_n (o_Checker_workOutDivision 24 rfl) rfl ?_
      refine xJ.getfield (o_Checker_workOutDivision 25 rfl) f_Checker_15 rfl rfl ?_
      refine xJ.iload_n (o_Checker_workOutDivision 26 rfl) rfl ?_
      refine xJ.laload (o_Checker_workOutDivision 27 rfl) rfl h.1 ?_
      replace h := h.2
      refine xJ.aload_n (o_Checker_workOutDivision 28 rfl) rfl ?_
      refine xJ.getfield (o_Checker_workOutDivision 29 rfl) f_Checker_32 rfl rfl ?_
      refine xJ.getfield (o_Checker_workOutDivision 30 rfl) f_Checker_167 rfl rfl ?_
      refine xJ.iload_n (o_Checker_workOutDivision 31 rfl) rfl ?_
      refine xJ.iaload (o_Checker_workOutDivision 32 rfl) rfl h.1 ?_
      replace h := h.2
      refine xJ.callS (Y' := Y_Words_two) (o_Checker_workOutDivision 33 rfl) m_Checker_177 y_Words_two st_Words_two (s_Words_two h) rfl rfl (Nat.le_of_ble_eq_true rfl) (fun _ hx => by cases hx) (fun v u q => ?_) (fun n u q => q)
      obtain ⟨r, rfl, h⟩ := xql_get q
      refine xJ.callV (Y' := Y_Checker_learn) (o_Checker_workOutDivision 34 rfl) m_Checker_50 y_Checker_learn im_Checker_learn se_Checker_learn rfl rfl (s_Checker_learn h) rfl rfl (Nat.le_of_ble_eq_true rfl) (fun _ hx => by cases hx) (fun v u q => ?_) (fun n u q => q)
      obtain ⟨rfl, h⟩ := xqv_get q
      refine xJ.goto (tgt := 73) (o_Checker_workOutDivision 35 rfl) (by decide) ?_
      exact xJ.return_ (o_Checker_workOutDivision 41 rfl) rfl h
def wp_Checker_workOutShift (Q : xO → xS → Prop) (σ : xS) (a1 : Int32) (a2 : Int32) (a3 : Int32) : Prop :=
  (vp_in a1 2000 ∧ (∀ x1 : Int32, x1 = (xi σ 8 a1.toNatClampNeg) → (vp_in a1 2000 ∧ (∀ x2 : Int64, x2 = (xl σ 13 a1.toNatClampNeg) → (vp_in a3 2000 ∧ wp_Words_signShift (xqi (fun r4 u3 => wp_Checker_isKnown (xqi (fun r6 u5 => ((¬ r6 = 0 → (vp_in a1 2000 ∧ ((¬ (xi u5 7 a1.toNatClampNeg) = 35 → (vp_in a3 2000 ∧ wp_Words_less (xqi (fun r8 u7 => ((¬ r8 = 0 → (vp_in a1 2000 ∧ ((¬ (xi u7 7 a1.toNatClampNeg) = 33 → (vp_in a2 2000 ∧ (vp_in a2 2000 ∧ wp_Checker_learn (xqv (fun u9 => Q (.inl none) u9) (fun n u => Q (.inr n) u)) u7 a1 ((jlushr (xl u7 45 a2.toNatClampNeg) r4) ||| (x2 &&& ((jlushr x2 r4) ^^^ (-1)))) (jlushr (xl u7 46 a2.toNatClampNeg) r4)))) ∧ ((xi u7 7 a1.toNatClampNeg) = 33 → (vp_in a2 2000 ∧ wp_Words_mask (xql (fun r12 u11 => (vp_in a2 2000 ∧ wp_Checker_learn (xqv (fun u13 => Q (.inl none) u13) (fun n u => Q (.inr n) u)) u11 a1 (((jlshl (xl u7 45 a2.toNatClampNeg) r4) ||| r12) &&& x2) (jlshl (xl u11 46 a2.toNatClampNeg) r4))) (fun n u => Q (.inr n) u)) u7 r4))))) ∧ (r8 = 0 → wp_Checker_learn (xqv (fun u15 => Q (.inl none) u15) (fun n u => Q (.inr n) u)) u7 a1 x2 0))) (fun n u => Q (.inr n) u)) u5 (xl u5 46 a3.toNatClampNeg) x1.toInt64)) ∧ ((xi u5 7 a1.toNatClampNeg) = 35 → (vp_in a2 2000 ∧ wp_Words_signed (xql (fun r18 u17 => (vp_in a2 2000 ∧ wp_Words_signed (xql (fun r20 u19 => wp_Checker_learn (xqv (fun u21 => Q (.inl none) u21) (fun n u => Q (.inr n) u)) u19 a1 ((jlshr r18 r4) &&& x2) (jlshr r20 r4)) (fun n u => Q (.inr n) u)) u17 (xl u17 46 a2.toNatClampNeg) x1)) (fun n u => Q (.inr n) u)) u5 (xl u5 45 a2.toNatClampNeg) x1))))) ∧ (r6 = 0 → wp_Checker_learn (xqv (fun u23 => Q (.inl none) u23) (fun n u => Q (.inr n) u)) u5 a1 0 0))) (fun n u => Q (.inr n) u)) u3 a3) (fun n u => Q (.inr n) u)) σ (xl σ 46 a3.toNatClampNeg) x1)))))
set_option maxRecDepth 20000 in
theorem s_Checker_workOutShift {γ : xG1} {d : Nat} {Q : xO → xS → Prop} {σ : xS} {a1 : Int32} {a2 : Int32} {a3 : Int32} (h : wp_Checker_workOutShift Q σ a1 a2 a3) : xM (SHP, γ) Y_Checker_workOutShift (d + 1) [.ref 44, .int a1, .int a2, .int a3] σ Q := by
  refine xM.of (by decide) (Nat.le_of_ble_eq_true rfl) ?_
  refine xJ.aload_n (o_Checker_workOutShift 0 rfl) rfl ?_
  refine xJ.getfield (o_Checker_workOutShift 1 rfl) f_Checker_32 rfl rfl ?_
  refine xJ.getfield (o_Checker_workOutShift 2 rfl) f_Checker_167 rfl rfl ?_
  refine xJ.iload_n (o_Checker_workOutShift 3 rfl) rfl ?_
  refine xJ.iaload (o_Checker_workOutShift 4 rfl) rfl h.1 ?_
  replace h := h.2
  refine xJ.istore (o_Checker_workOutShift 5 rfl) (by decide) ?_
  replace h := h _ rfl
  refine xJ.aload_n (o_Checker_workOutShift 6 rfl) rfl ?_
  refine xJ.getfield (o_Checker_workOutShift 7 rfl) f_Checker_32 rfl rfl ?_
  refine xJ.getfield (o_Checker_workOutShift 8 rfl) f_Checker_45 rfl rfl ?_
  refine xJ.iload_n (o_Checker_workOutShift 9 rfl) rfl ?_
  refine xJ.laload (o_Checker_workOutShift 10 rfl) rfl h.1 ?_
  replace h := h.2
  refine xJ.lstore (o_Checker_workOutShift 11 rfl) (by decide) ?_
  replace h := h _ rfl
  refine xJ.aload_n (o_Checker_workOutShift 12 rfl) rfl ?_
  refine xJ.getfield (o_Checker_workOutShift 13 rfl) f_Checker_15 rfl rfl ?_
  refine xJ.iload_n (o_Checker_workOutShift 14 rfl) rfl ?_
  refine xJ.laload (o_Checker_workOutShift 15 rfl) rfl h.1 ?_
  replace h := h.2
  refine xJ.iload (o_Checker_workOutShift 16 rfl) rfl ?_
  refine xJ.callS (Y' := Y_Words_signShift) (o_Checker_workOutShift 17 rfl) m_Checker_181 y_Words_signShift st_Words_signShift (s_Words_signShift h) rfl rfl (Nat.le_of_ble_eq_true rfl) (fun _ hx => by cases hx) (fun v u q => ?_) (fun n u q => q)
  obtain ⟨r, rfl, h⟩ := xqi_get q
  refine xJ.istore (o_Checker_workOutShift 18 rfl) (by decide) ?_
  refine xJ.aload_n (o_Checker_workOutShift 19 rfl) rfl ?_
  refine xJ.iload_n (o_Checker_workOutShift 20 rfl) rfl ?_
  refine xJ.callV (Y' := Y_Checker_isKnown) (o_Checker_workOutShift 21 rfl) m_Checker_131 y_Checker_isKnown im_Checker_isKnown se_Checker_isKnown rfl rfl (s_Checker_isKnown h) rfl rfl (Nat.le_of_ble_eq_true rfl) (fun _ hx => by cases hx) (fun v u q => ?_) (fun n u q => q)
  obtain ⟨r, rfl, h⟩ := xqi_get q
  refine xJ.if_ne (tgt := 53) (o_Checker_workOutShift 22 rfl) (by decide) (fun z => ?_) (fun z => ?_)
  · replace h := h.1 z
    refine xJ.aload_n (o_Checker_workOutShift 29 rfl) rfl ?_
    refine xJ.getfield (o_Checker_workOutShift 30 rfl) f_Checker_32 rfl rfl ?_
    refine xJ.getfield (o_Checker_workOutShift 31 rfl) f_Checker_68 rfl rfl ?_
    refine xJ.iload_n (o_Checker_workOutShift 32 rfl) rfl ?_
    refine xJ.iaload (o_Checker_workOutShift 33 rfl) rfl h.1 ?_
    replace h := h.2
    refine xJ.bipush (v := 35) (o_Checker_workOutShift 34 rfl) (by decide) ?_
    refine xJ.icmp_ne (tgt := 106) (o_Checker_workOutShift 35 rfl) (by decide) (fun z => ?_) (fun z => ?_)
    · replace h := h.1 z
      refine xJ.aload_n (o_Checker_workOutShift 58 rfl) rfl ?_
      refine xJ.getfield (o_Checker_workOutShift 59 rfl) f_Checker_15 rfl rfl ?_
      refine xJ.iload_n (o_Checker_workOutShift 60 rfl) rfl ?_
      refine xJ.laload (o_Checker_workOutShift 61 rfl) rfl h.1 ?_
      replace h := h.2
      refine xJ.iload (o_Checker_workOutShift 62 rfl) rfl ?_
      refine xJ.i2l (o_Checker_workOutShift 63 rfl) rfl ?_
      refine xJ.callS (Y' := Y_Words_less) (o_Checker_workOutShift 64 rfl) m_Checker_185 y_Words_less st_Words_less (s_Words_less h) rfl rfl (Nat.le_of_ble_eq_true rfl) (fun _ hx => by cases hx) (fun v u q => ?_) (fun n u q => q)
      obtain ⟨r, rfl, h⟩ := xqi_get q
      refine xJ.if_ne (tgt := 132) (o_Checker_workOutShift 65 rfl) (by decide) (fun z => ?_) (fun z => ?_)
      · replace h := h.1 z
        refine xJ.aload_n (o_Checker_workOutShift 72 rfl) rfl ?_
        refine xJ.getfield (o_Checker_workOutShift 73 rfl) f_Checker_32 rfl rfl ?_
        refine xJ.getfield (o_Checker_workOutShift 74 rfl) f_Checker_68 rfl rfl ?_
        refine xJ.iload_n (o_Checker_workOutShift 75 rfl) rfl ?_
        refine xJ.iaload (o_Checker_workOutShift 76 rfl) rfl h.1 ?_
        replace h := h.2
        refine xJ.bipush (v := 33) (o_Checker_workOutShift 77 rfl) (by decide) ?_
        refine xJ.icmp_ne (tgt := 181) (o_Checker_workOutShift 78 rfl) (by decide) (fun z => ?_) (fun z => ?_)
        · replace h := h.1 z
          refine xJ.aload_n (o_Checker_workOutShift 100 rfl) rfl ?_
          refine xJ.iload_n (o_Checker_workOutShift 101 rfl) rfl ?_
          refine xJ.aload_n (o_Checker_workOutShift 102 rfl) rfl ?_
          refine xJ.getfield (o_Checker_workOutShift 103 rfl) f_Checker_9 rfl rfl ?_
          refine xJ.iload_n (o_Checker_workOutShift 104 rfl) rfl ?_
          refine xJ.laload (o_Checker_workOutShift 105 rfl) rfl h.1 ?_
          replace h := h.2
          refine xJ.iload (o_Checker_workOutShift 106 rfl) rfl ?_
          refine xJ.lushr (o_Checker_workOutShift 107 rfl) rfl ?_
          refine xJ.lload (o_Checker_workOutShift 108 rfl) rfl ?_
          refine xJ.lload (o_Checker_workOutShift 109 rfl) rfl ?_
          refine xJ.iload (o_Checker_workOutShift 110 rfl) rfl ?_
          refine xJ.lushr (o_Checker_workOutShift 111 rfl) rfl ?_
          refine xJ.ldc2 (v := (-1)) (o_Checker_workOutShift 112 rfl) k_Checker_77 ?_
          refine xJ.lxor (o_Checker_workOutShift 113 rfl) ?_
          refine xJ.land (o_Checker_workOutShift 114 rfl) ?_
          refine xJ.lor (o_Checker_workOutShift 115 rfl) ?_
          refine xJ.aload_n (o_Checker_workOutShift 116 rfl) rfl ?_
          refine xJ.getfield (o_Checker_workOutShift 117 rfl) f_Checker_15 rfl rfl ?_
          refine xJ.iload_n (o_Checker_workOutShift 118 rfl) rfl ?_
          refine xJ.laload (o_Checker_workOutShift 119 rfl) rfl h.1 ?_
          replace h := h.2
          refine xJ.iload (o_Checker_workOutShift 120 rfl) rfl ?_
          refine xJ.lushr (o_Checker_workOutShift 121 rfl) rfl ?_
          refine xJ.callV (Y' := Y_Checker_learn) (o_Checker_workOutShift 122 rfl) m_Checker_50 y_Checker_learn im_Checker_learn se_Checker_learn rfl rfl (s_Checker_learn h) rfl rfl (Nat.le_of_ble_eq_true rfl) (fun _ hx => by cases hx) (fun v u q => ?_) (fun n u q => q)
          obtain ⟨rfl, h⟩ := xqv_get q
          exact xJ.return_ (o_Checker_workOutShift 123 rfl) rfl h
        · replace h := h.2 z
          refine xJ.aload_n (o_Checker_workOutShift 79 rfl) rfl ?_
          refine xJ.iload_n (o_Checker_workOutShift 80 rfl) rfl ?_
          refine xJ.aload_n (o_Checker_workOutShift 81 rfl) rfl ?_
          refine xJ.getfield (o_Checker_workOutShift 82 rfl) f_Checker_9 rfl rfl ?_
          refine xJ.iload_n (o_Checker_workOutShift 83 rfl) rfl ?_
          refine xJ.laload (o_Checker_workOutShift 84 rfl) rfl h.1 ?_
          replace h := h.2
          refine xJ.iload (o_Checker_workOutShift 85 rfl) rfl ?_
          refine xJ.lshl (o_Checker_workOutShift 86 rfl) rfl ?_
          refine xJ.iload (o_Checker_workOutShift 87 rfl) rfl ?_
          refine xJ.callS (Y' := Y_Words_mask) (o_Checker_workOutShift 88 rfl) m_Checker_163 y_Words_mask st_Words_mask (s_Words_mask h) rfl rfl (Nat.le_of_ble_eq_true rfl) (fun _ hx => by cases hx) (fun v u q => ?_) (fun n u q => q)
          obtain ⟨r, rfl, h⟩ := xql_get q
          refine xJ.lor (o_Checker_workOutShift 89 rfl) ?_
          refine xJ.lload (o_Checker_workOutShift 90 rfl) rfl ?_
          refine xJ.land (o_Checker_workOutShift 91 rfl) ?_
          refine xJ.aload_n (o_Checker_workOutShift 92 rfl) rfl ?_
          refine xJ.getfield (o_Checker_workOutShift 93 rfl) f_Checker_15 rfl rfl ?_
          refine xJ.iload_n (o_Checker_workOutShift 94 rfl) rfl ?_
          refine xJ.laload (o_Checker_workOutShift 95 rfl) rfl h.1 ?_
          replace h := h.2
          refine xJ.iload (o_Checker_workOutShift 96 rfl) rfl ?_
          refine xJ.lshl (o_Checker_workOutShift 97 rfl) rfl ?_
          refine xJ.callV (Y' := Y_Checker_learn) (o_Checker_workOutShift 98 rfl) m_Checker_50 y_Checker_learn im_Checker_learn se_Checker_learn rfl rfl (s_Checker_learn h) rfl rfl (Nat.le_of_ble_eq_true rfl) (fun _ hx => by cases hx) (fun v u q => ?_) (fun n u q => q)
          obtain ⟨rfl, h⟩ := xqv_get q
          refine xJ.goto (tgt := 217) (o_Checker_workOutShift 99 rfl) (by decide) ?_
          exact xJ.return_ (o_Checker_workOutShift 123 rfl) rfl h
      · replace h := h.2 z
        refine xJ.aload_n (o_Checker_workOutShift 66 rfl) rfl ?_
        refine xJ.iload_n (o_Checker_workOutShift 67 rfl) rfl ?_
        refine xJ.lload (o_Checker_workOutShift 68 rfl) rfl ?_
        refine xJ.lconst (v := 0) (o_Checker_workOutShift 69 rfl) (by decide) ?_
        refine xJ.callV (Y' := Y_Checker_learn) (o_Checker_workOutShift 70 rfl) m_Checker_50 y_Checker_learn im_Checker_learn se_Checker_learn rfl rfl (s_Checker_learn h) rfl rfl (Nat.le_of_ble_eq_true rfl) (fun _ hx => by cases hx) (fun v u q => ?_) (fun n u q => q)
        obtain ⟨rfl, h⟩ := xqv_get q
        refine xJ.goto (tgt := 217) (o_Checker_workOutShift 71 rfl) (by decide) ?_
        exact xJ.return_ (o_Checker_workOutShift 123 rfl) rfl h
    · replace h := h.2 z
      refine xJ.aload_n (o_Checker_workOutShift 36 rfl) rfl ?_
      refine xJ.iload_n (o_Checker_workOutShift 37 rfl) rfl ?_
      refine xJ.aload_n (o_Checker_workOutShift 38 rfl) rfl ?_
      refine xJ.getfield (o_Checker_workOutShift 39 rfl) f_Checker_9 rfl rfl ?_
      refine xJ.iload_n (o_Checker_workOutShift 40 rfl) rfl ?_
      refine xJ.laload (o_Checker_workOutShift 41 rfl) rfl h.1 ?_
      replace h := h.2
      refine xJ.iload (o_Checker_workOutShift 42 rfl) rfl ?_
      refine xJ.callS (Y' := Y_Words_signed) (o_Checker_workOutShift 43 rfl) m_Checker_173 y_Words_signed st_Words_signed (s_Words_signed h) rfl rfl (Nat.le_of_ble_eq_true rfl) (fun _ hx => by cases hx) (fun v u q => ?_) (fun n u q => q)
      obtain ⟨r, rfl, h⟩ := xql_get q
      refine xJ.iload (o_Checker_workOutShift 44 rfl) rfl ?_
      refine xJ.lshr (o_Checker_workOutShift 45 rfl) rfl ?_
      refine xJ.lload (o_Checker_workOutShift 46 rfl) rfl ?_
      refine xJ.land (o_Checker_workOutShift 47 rfl) ?_
      refine xJ.aload_n (o_Checker_workOutShift 48 rfl) rfl ?_
      refine xJ.getfield (o_Checker_workOutShift 49 rfl) f_Checker_15 rfl rfl ?_
      refine xJ.iload_n (o_Checker_workOutShift 50 rfl) rfl ?_
      refine xJ.laload (o_Checker_workOutShift 51 rfl) rfl h.1 ?_
      replace h := h.2
      refine xJ.iload (o_Checker_workOutShift 52 rfl) rfl ?_
      refine xJ.callS (Y' := Y_Words_signed) (o_Checker_workOutShift 53 rfl) m_Checker_173 y_Words_signed st_Words_signed (s_Words_signed h) rfl rfl (Nat.le_of_ble_eq_true rfl) (fun _ hx => by cases hx) (fun v u q => ?_) (fun n u q => q)
      obtain ⟨r, rfl, h⟩ := xql_get q
      refine xJ.iload (o_Checker_workOutShift 54 rfl) rfl ?_
      refine xJ.lshr (o_Checker_workOutShift 55 rfl) rfl ?_
      refine xJ.callV (Y' := Y_Checker_learn) (o_Checker_workOutShift 56 rfl) m_Checker_50 y_Checker_learn im_Checker_learn se_Checker_learn rfl rfl (s_Checker_learn h) rfl rfl (Nat.le_of_ble_eq_true rfl) (fun _ hx => by cases hx) (fun v u q => ?_) (fun n u q => q)
      obtain ⟨rfl, h⟩ := xqv_get q
      refine xJ.goto (tgt := 217) (o_Checker_workOutShift 57 rfl) (by decide) ?_
      exact xJ.return_ (o_Checker_workOutShift 123 rfl) rfl h
  · replace h := h.2 z
    refine xJ.aload_n (o_Checker_workOutShift 23 rfl) rfl ?_
    refine xJ.iload_n (o_Checker_workOutShift 24 rfl) rfl ?_
    refine xJ.lconst (v := 0) (o_Checker_workOutShift 25 rfl) (by decide) ?_
    refine xJ.lconst (v := 0) (o_Checker_workOutShift 26 rfl) (by decide) ?_
    refine xJ.callV (Y' := Y_Checker_learn) (o_Checker_workOutShift 27 rfl) m_Checker_50 y_Checker_learn im_Checker_learn se_Checker_learn rfl rfl (s_Checker_learn h) rfl rfl (Nat.le_of_ble_eq_true rfl) (fun _ hx => by cases hx) (fun v u q => ?_) (fun n u q => q)
    obtain ⟨rfl, h⟩ := xqv_get q
    refine xJ.goto (tgt := 217) (o_Checker_workOutShift 28 rfl) (by decide) ?_
    exact xJ.return_ (o_Checker_workOutShift 123 rfl) rfl h
def w_Checker_workOutConcat_16 (Q : xO → xS → Prop) : Nat → Int32 → Int64 → Int64 → Int32 → xS → Prop
  | 0 => fun _ _ _ _ _ => False
  | n + 1 => fun a1 a2 a4 a6 σ =>
    (vp_in (a1 + 1) 2001 ∧ (((xi σ 9 (a1 + 1).toNatClampNeg) ≤ a6 → wp_Checker_learn (xqv (fun u2 => Q (.inl none) u2) (fun n u => Q (.inr n) u)) σ a1 a2 a4) ∧ (¬ (xi σ 9 (a1 + 1).toNatClampNeg) ≤ a6 → (vp_in a6 80000 ∧ (∀ x4 : Int32, x4 = (xi σ 10 a6.toNatClampNeg) → (vp_in x4 2000 ∧ (vp_in x4 2000 ∧ (∀ x5 : Int64, x5 = ((jlshl a2 (xi σ 8 x4.toNatClampNeg)) ||| (xl σ 45 x4.toNatClampNeg)) → (vp_in x4 2000 ∧ (vp_in x4 2000 ∧ (∀ x6 : Int64, x6 = ((jlshl a4 (xi σ 8 x4.toNatClampNeg)) ||| (xl σ 46 x4.toNatClampNeg)) → (∀ x7 : Int32, x7 = a6 + 1 → w_Checker_workOutConcat_16 Q n a1 x5 x6 x7 σ))))))))))))
def wp_Checker_workOutConcat (Q : xO → xS → Prop) (σ : xS) (a1 : Int32) : Prop :=
  (vp_in a1 2001 ∧ (∀ x1 : Int32, x1 = (xi σ 9 a1.toNatClampNeg) → ∃ m, w_Checker_workOutConcat_16 Q m a1 0 0 x1 σ))
set_option maxRecDepth 20000 in
theorem sw_Checker_workOutConcat_16 {γ : xG1} {d b0 : Nat} {Q : xO → xS → Prop} : ∀ (n : Nat) (a1 : Int32) (a2 : Int64) (a4 : Int64) (a6 : Int32) (σ : xS), w_Checker_workOutConcat_16 Q n a1 a2 a4 a6 σ → xJ (SHP, γ) Y_Checker_workOutConcat (d + 1) b0 16 [(0, .ref 44), (1, .int a1), (2, .long a2), (4, .long a4), (6, .int a6)] [] σ Q := by
  intro n
  induction n with
  | zero => intro a1 a2 a4 a6 σ h; exact h.elim
  | succ n ih =>
    intro a1 a2 a4 a6 σ h
    refine xJ.iload (o_Checker_workOutConcat 10 rfl) rfl ?_
    refine xJ.aload_n (o_Checker_workOutConcat 11 rfl) rfl ?_
    refine xJ.getfield (o_Checker_workOutConcat 12 rfl) f_Checker_32 rfl rfl ?_
    refine xJ.getfield (o_Checker_workOutConcat 13 rfl) f_Checker_61 rfl rfl ?_
    refine xJ.iload_n (o_Checker_workOutConcat 14 rfl) rfl ?_
    refine xJ.iconst (v := 1) (o_Checker_workOutConcat 15 rfl) (by decide) ?_
    refine xJ.iadd (o_Checker_workOutConcat 16 rfl) ?_
    refine xJ.iaload (o_Checker_workOutConcat 17 rfl) rfl h.1 ?_
    replace h := h.2
    refine xJ.icmp_ge (tgt := 94) (o_Checker_workOutConcat 18 rfl) (by decide) (fun z => ?_) (fun z => ?_)
    · replace h := h.1 z
      refine xJ.aload_n (o_Checker_workOutConcat 53 rfl) rfl ?_
      refine xJ.iload_n (o_Checker_workOutConcat 54 rfl) rfl ?_
      refine xJ.lload_n (o_Checker_workOutConcat 55 rfl) rfl ?_
      refine xJ.lload (o_Checker_workOutConcat 56 rfl) rfl ?_
      refine xJ.callV (Y' := Y_Checker_learn) (o_Checker_workOutConcat 57 rfl) m_Checker_50 y_Checker_learn im_Checker_learn se_Checker_learn rfl rfl (s_Checker_learn h) rfl rfl (Nat.le_of_ble_eq_true rfl) (fun _ hx => by cases hx) (fun v u q => ?_) (fun n u q => q)
      obtain ⟨rfl, h⟩ := xqv_get q
      exact xJ.return_ (o_Checker_workOutConcat 58 rfl) rfl h
    · replace h := h.2 z
      refine xJ.aload_n (o_Checker_workOutConcat 19 rfl) rfl ?_
      refine xJ.getfield (o_Checker_workOutConcat 20 rfl) f_Checker_32 rfl rfl ?_
      refine xJ.getfield (o_Checker_workOutConcat 21 rfl) f_Checker_74 rfl rfl ?_
      refine xJ.iload (o_Checker_workOutConcat 22 rfl) rfl ?_
      refine xJ.iaload (o_Checker_workOutConcat 23 rfl) rfl h.1 ?_
      replace h := h.2
      refine xJ.istore (o_Checker_workOutConcat 24 rfl) (by decide) ?_
      replace h := h _ rfl
      refine xJ.lload_n (o_Checker_workOutConcat 25 rfl) rfl ?_
      refine xJ.aload_n (o_Checker_workOutConcat 26 rfl) rfl ?_
      refine xJ.getfield (o_Checker_workOutConcat 27 rfl) f_Checker_32 rfl rfl ?_
      refine xJ.getfield (o_Checker_workOutConcat 28 rfl) f_Checker_167 rfl rfl ?_
      refine xJ.iload (o_Checker_workOutConcat 29 rfl) rfl ?_
      refine xJ.iaload (o_Checker_workOutConcat 30 rfl) rfl h.1 ?_
      replace h := h.2
      refine xJ.lshl (o_Checker_workOutConcat 31 rfl) rfl ?_
      refine xJ.aload_n (o_Checker_workOutConcat 32 rfl) rfl ?_
      refine xJ.getfield (o_Checker_workOutConcat 33 rfl) f_Checker_9 rfl rfl ?_
      refine xJ.iload (o_Checker_workOutConcat 34 rfl) rfl ?_
      refine xJ.laload (o_Checker_workOutConcat 35 rfl) rfl h.1 ?_
      replace h := h.2
      refine xJ.lor (o_Checker_workOutConcat 36 rfl) ?_
      refine xJ.lstore_n (o_Checker_workOutConcat 37 rfl) (by decide) ?_
      replace h := h _ rfl
      refine xJ.lload (o_Checker_workOutConcat 38 rfl) rfl ?_
      refine xJ.aload_n (o_Checker_workOutConcat 39 rfl) rfl ?_
      refine xJ.getfield (o_Checker_workOutConcat 40 rfl) f_Checker_32 rfl rfl ?_
      refine xJ.getfield (o_Checker_workOutConcat 41 rfl) f_Checker_167 rfl rfl ?_
      refine xJ.iload (o_Checker_workOutConcat 42 rfl) rfl ?_
      refine xJ.iaload (o_Checker_workOutConcat 43 rfl) rfl h.1 ?_
      replace h := h.2
      refine xJ.lshl (o_Checker_workOutConcat 44 rfl) rfl ?_
      refine xJ.aload_n (o_Checker_workOutConcat 45 rfl) rfl ?_
      refine xJ.getfield (o_Checker_workOutConcat 46 rfl) f_Checker_15 rfl rfl ?_
      refine xJ.iload (o_Checker_workOutConcat 47 rfl) rfl ?_
      refine xJ.laload (o_Checker_workOutConcat 48 rfl) rfl h.1 ?_
      replace h := h.2
      refine xJ.lor (o_Checker_workOutConcat 49 rfl) ?_
      refine xJ.lstore (o_Checker_workOutConcat 50 rfl) (by decide) ?_
      replace h := h _ rfl
      refine xJ.iincC (w := 1) (o_Checker_workOutConcat 51 rfl) rfl (by decide) (by decide) ?_
      replace h := h _ rfl
      refine xJ.goto (tgt := 16) (o_Checker_workOutConcat 52 rfl) (by decide) ?_
      exact xJ.lvs (by exact ⟨rfl, rfl, rfl, rfl, rfl, trivial⟩) (ih _ _ _ _ _ h)
set_option maxRecDepth 20000 in
theorem s_Checker_workOutConcat {γ : xG1} {d : Nat} {Q : xO → xS → Prop} {σ : xS} {a1 : Int32} (h : wp_Checker_workOutConcat Q σ a1) : xM (SHP, γ) Y_Checker_workOutConcat (d + 1) [.ref 44, .int a1] σ Q := by
  refine xM.of (by decide) (Nat.le_of_ble_eq_true rfl) ?_
  refine xJ.lconst (v := 0) (o_Checker_workOutConcat 0 rfl) (by decide) ?_
  refine xJ.lstore_n (o_Checker_workOutConcat 1 rfl) (by decide) ?_
  refine xJ.lconst (v := 0) (o_Checker_workOutConcat 2 rfl) (by decide) ?_
  refine xJ.lstore (o_Checker_workOutConcat 3 rfl) (by decide) ?_
  refine xJ.aload_n (o_Checker_workOutConcat 4 rfl) rfl ?_
  refine xJ.getfield (o_Checker_workOutConcat 5 rfl) f_Checker_32 rfl rfl ?_
  refine xJ.getfield (o_Checker_workOutConcat 6 rfl) f_Checker_61 rfl rfl ?_
  refine xJ.iload_n (o_Checker_workOutConcat 7 rfl) rfl ?_
  refine xJ.iaload (o_Checker_workOutConcat 8 rfl) rfl h.1 ?_
  replace h := h.2
  refine xJ.istore (o_Checker_workOutConcat 9 rfl) (by decide) ?_
  replace h := h _ rfl
  obtain ⟨m, h⟩ := h
  exact xJ.lvs (by exact ⟨rfl, rfl, rfl, rfl, rfl, trivial⟩) (sw_Checker_workOutConcat_16 m _ _ _ _ _ h)
def wp_Checker_workOutSelect (Q : xO → xS → Prop) (σ : xS) (a1 : Int32) (a2 : Int32) (a3 : Int32) : Prop :=
  wp_Checker_isKnown (xqi (fun r2 u1 => ((r2 = 0 → wp_Checker_learn (xqv (fun u3 => Q (.inl none) u3) (fun n u => Q (.inr n) u)) u1 a1 0 0) ∧ (¬ r2 = 0 → (vp_in a2 2000 ∧ (vp_in a3 2000 ∧ wp_Sorts_cellShift (xqi (fun r6 u5 => (vp_in a2 2000 ∧ (vp_in a1 2000 ∧ (vp_in a2 2000 ∧ wp_Checker_learn (xqv (fun u7 => Q (.inl none) u7) (fun n u => Q (.inr n) u)) u5 a1 ((jlushr (xl u5 45 a2.toNatClampNeg) r6) &&& (xl u5 13 a1.toNatClampNeg)) (jlushr (xl u5 46 a2.toNatClampNeg) r6))))) (fun n u => Q (.inr n) u)) u1 (xi u1 8 a2.toNatClampNeg) (xl u1 46 a3.toNatClampNeg)))))) (fun n u => Q (.inr n) u)) σ a3
set_option maxRecDepth 20000 in
theorem s_Checker_workOutSelect {γ : xG1} {d : Nat} {Q : xO → xS → Prop} {σ : xS} {a1 : Int32} {a2 : Int32} {a3 : Int32} (h : wp_Checker_workOutSelect Q σ a1 a2 a3) : xM (SHP, γ) Y_Checker_workOutSelect (d + 1) [.ref 44, .int a1, .int a2, .int a3] σ Q := by
  refine xM.of (by decide) (Nat.le_of_ble_eq_true rfl) ?_
  refine xJ.aload_n (o_Checker_workOutSelect 0 rfl) rfl ?_
  refine xJ.iload_n (o_Checker_workOutSelect 1 rfl) rfl ?_
  refine xJ.callV (Y' := Y_Checker_isKnown) (o_Checker_workOutSelect 2 rfl) m_Checker_131 y_Checker_isKnown im_Checker_isKnown se_Checker_isKnown rfl rfl (s_Checker_isKnown h) rfl rfl (Nat.le_of_ble_eq_true rfl) (fun _ hx => by cases hx) (fun v u q => ?_) (fun n u q => q)
  obtain ⟨r, rfl, h⟩ := xqi_get q
  refine xJ.if_eq (tgt := 64) (o_Checker_workOutSelect 3 rfl) (by decide) (fun z => ?_) (fun z => ?_)
  · replace h := h.1 z
    refine xJ.aload_n (o_Checker_workOutSelect 37 rfl) rfl ?_
    refine xJ.iload_n (o_Checker_workOutSelect 38 rfl) rfl ?_
    refine xJ.lconst (v := 0) (o_Checker_workOutSelect 39 rfl) (by decide) ?_
    refine xJ.lconst (v := 0) (o_Checker_workOutSelect 40 rfl) (by decide) ?_
    refine xJ.callV (Y' := Y_Checker_learn) (o_Checker_workOutSelect 41 rfl) m_Checker_50 y_Checker_learn im_Checker_learn se_Checker_learn rfl rfl (s_Checker_learn h) rfl rfl (Nat.le_of_ble_eq_true rfl) (fun _ hx => by cases hx) (fun v u q => ?_) (fun n u q => q)
    obtain ⟨rfl, h⟩ := xqv_get q
    exact xJ.return_ (o_Checker_workOutSelect 42 rfl) rfl h
  · replace h := h.2 z
    refine xJ.aload_n (o_Checker_workOutSelect 4 rfl) rfl ?_
    refine xJ.getfield (o_Checker_workOutSelect 5 rfl) f_Checker_32 rfl rfl ?_
    refine xJ.getfield (o_Checker_workOutSelect 6 rfl) f_Checker_167 rfl rfl ?_
    refine xJ.iload_n (o_Checker_workOutSelect 7 rfl) rfl ?_
    refine xJ.iaload (o_Checker_workOutSelect 8 rfl) rfl h.1 ?_
    replace h := h.2
    refine xJ.aload_n (o_Checker_workOutSelect 9 rfl) rfl ?_
    refine xJ.getfield (o_Checker_workOutSelect 10 rfl) f_Checker_15 rfl rfl ?_
    refine xJ.iload_n (o_Checker_workOutSelect 11 rfl) rfl ?_
    refine xJ.laload (o_Checker_workOutSelect 12 rfl) rfl h.1 ?_
    replace h := h.2
    refine xJ.callS (Y' := Y_Sorts_cellShift) (o_Checker_workOutSelect 13 rfl) m_Checker_193 y_Sorts_cellShift st_Sorts_cellShift (s_Sorts_cellShift h) rfl rfl (Nat.le_of_ble_eq_true rfl) (fun _ hx => by cases hx) (fun v u q => ?_) (fun n u q => q)
    obtain ⟨r, rfl, h⟩ := xqi_get q
    refine xJ.istore (o_Checker_workOutSelect 14 rfl) (by decide) ?_
    refine xJ.aload_n (o_Checker_workOutSelect 15 rfl) rfl ?_
    refine xJ.iload_n (o_Checker_workOutSelect 16 rfl) rfl ?_
    refine xJ.aload_n (o_Checker_workOutSelect 17 rfl) rfl ?_
    refine xJ.getfield (o_Checker_workOutSelect 18 rfl) f_Checker_9 rfl rfl ?_
    refine xJ.iload_n (o_Checker_workOutSelect 19 rfl) rfl ?_
    refine xJ.laload (o_Checker_workOutSelect 20 rfl) rfl h.1 ?_
    replace h := h.2
    refine xJ.iload (o_Checker_workOutSelect 21 rfl) rfl ?_
    refine xJ.lushr (o_Checker_workOutSelect 22 rfl) rfl ?_
    refine xJ.aload_n (o_Checker_workOutSelect 23 rfl) rfl ?_
    refine xJ.getfield (o_Checker_workOutSelect 24 rfl) f_Checker_32 rfl rfl ?_
    refine xJ.getfield (o_Checker_workOutSelect 25 rfl) f_Checker_45 rfl rfl ?_
    refine xJ.iload_n (o_Checker_workOutSelect 26 rfl) rfl ?_
    refine xJ.laload (o_Checker_workOutSelect 27 rfl) rfl h.1 ?_
    replace h := h.2
    refine xJ.land (o_Checker_workOutSelect 28 rfl) ?_
    refine xJ.aload_n (o_Checker_workOutSelect 29 rfl) rfl ?_
    refine xJ.getfield (o_Checker_workOutSelect 30 rfl) f_Checker_15 rfl rfl ?_
    refine xJ.iload_n (o_Checker_workOutSelect 31 rfl) rfl ?_
    refine xJ.laload (o_Checker_workOutSelect 32 rfl) rfl h.1 ?_
    replace h := h.2
    refine xJ.iload (o_Checker_workOutSelect 33 rfl) rfl ?_
    refine xJ.lushr (o_Checker_workOutSelect 34 rfl) rfl ?_
    refine xJ.callV (Y' := Y_Checker_learn) (o_Checker_workOutSelect 35 rfl) m_Checker_50 y_Checker_learn im_Checker_learn se_Checker_learn rfl rfl (s_Checker_learn h) rfl rfl (Nat.le_of_ble_eq_true rfl) (fun _ hx => by cases hx) (fun v u q => ?_) (fun n u q => q)
    obtain ⟨rfl, h⟩ := xqv_get q
    refine xJ.goto (tgt := 71) (o_Checker_workOutSelect 36 rfl) (by decide) ?_
    exact xJ.return_ (o_Checker_workOutSelect 42 rfl) rfl h
def wp_Checker_workOutStore (Q : xO → xS → Prop) (σ : xS) (a1 : Int32) (a2 : Int32) (a3 : Int32) (a4 : Int32) : Prop :=
  wp_Checker_isKnown (xqi (fun r2 u1 => ((r2 = 0 → wp_Checker_learn (xqv (fun u3 => Q (.inl none) u3) (fun n u => Q (.inr n) u)) u1 a1 0 0) ∧ (¬ r2 = 0 → (vp_in a1 2000 ∧ (vp_in a3 2000 ∧ wp_Sorts_cellShift (xqi (fun r6 u5 => (vp_in a4 2000 ∧ (∀ x7 : Int64, x7 = ((jlshl (xl u5 13 a4.toNatClampNeg) r6) ^^^ (-1)) → (vp_in a2 2000 ∧ (vp_in a4 2000 ∧ (vp_in a2 2000 ∧ (vp_in a4 2000 ∧ wp_Checker_learn (xqv (fun u8 => Q (.inl none) u8) (fun n u => Q (.inr n) u)) u5 a1 (((xl u5 45 a2.toNatClampNeg) &&& x7) ||| (jlshl (xl u5 45 a4.toNatClampNeg) r6)) (((xl u5 46 a2.toNatClampNeg) &&& x7) ||| (jlshl (xl u5 46 a4.toNatClampNeg) r6))))))))) (fun n u => Q (.inr n) u)) u1 (xi u1 8 a1.toNatClampNeg) (xl u1 46 a3.toNatClampNeg)))))) (fun n u => Q (.inr n) u)) σ a3
set_option maxRecDepth 20000 in
theorem s_Checker_workOutStore {γ : xG1} {d : Nat} {Q : xO → xS → Prop} {σ : xS} {a1 : Int32} {a2 : Int32} {a3 : Int32} {a4 : Int32} (h : wp_Checker_workOutStore Q σ a1 a2 a3 a4) : xM (SHP, γ) Y_Checker_workOutStore (d + 1) [.ref 44, .int a1, .int a2, .int a3, .int a4] σ Q := by
  refine xM.of (by decide) (Nat.le_of_ble_eq_true rfl) ?_
  refine xJ.aload_n (o_Checker_workOutStore 0 rfl) rfl ?_
  refine xJ.iload_n (o_Checker_workOutStore 1 rfl) rfl ?_
  refine xJ.callV (Y' := Y_Checker_isKnown) (o_Checker_workOutStore 2 rfl) m_Checker_131 y_Checker_isKnown im_Checker_isKnown se_Checker_isKnown rfl rfl (s_Checker_isKnown h) rfl rfl (Nat.le_of_ble_eq_true rfl) (fun _ hx => by cases hx) (fun v u q => ?_) (fun n u q => q)
  obtain ⟨r, rfl, h⟩ := xqi_get q
  refine xJ.if_eq (tgt := 95) (o_Checker_workOutStore 3 rfl) (by decide) (fun z => ?_) (fun z => ?_)
  · replace h := h.1 z
    refine xJ.aload_n (o_Checker_workOutStore 55 rfl) rfl ?_
    refine xJ.iload_n (o_Checker_workOutStore 56 rfl) rfl ?_
    refine xJ.lconst (v := 0) (o_Checker_workOutStore 57 rfl) (by decide) ?_
    refine xJ.lconst (v := 0) (o_Checker_workOutStore 58 rfl) (by decide) ?_
    refine xJ.callV (Y' := Y_Checker_learn) (o_Checker_workOutStore 59 rfl) m_Checker_50 y_Checker_learn im_Checker_learn se_Checker_learn rfl rfl (s_Checker_learn h) rfl rfl (Nat.le_of_ble_eq_true rfl) (fun _ hx => by cases hx) (fun v u q => ?_) (fun n u q => q)
    obtain ⟨rfl, h⟩ := xqv_get q
    exact xJ.return_ (o_Checker_workOutStore 60 rfl) rfl h
  · replace h := h.2 z
    refine xJ.aload_n (o_Checker_workOutStore 4 rfl) rfl ?_
    refine xJ.getfield (o_Checker_workOutStore 5 rfl) f_Checker_32 rfl rfl ?_
    refine xJ.getfield (o_Checker_workOutStore 6 rfl) f_Checker_167 rfl rfl ?_
    refine xJ.iload_n (o_Checker_workOutStore 7 rfl) rfl ?_
    refine xJ.iaload (o_Checker_workOutStore 8 rfl) rfl h.1 ?_
    replace h := h.2
    refine xJ.aload_n (o_Checker_workOutStore 9 rfl) rfl ?_
    refine xJ.getfield (o_Checker_workOutStore 10 rfl) f_Checker_15 rfl rfl ?_
    refine xJ.iload_n (o_Checker_workOutStore 11 rfl) rfl ?_
    refine xJ.laload (o_Checker_workOutStore 12 rfl) rfl h.1 ?_
    replace h := h.2
    refine xJ.callS (Y' := Y_Sorts_cellShift) (o_Checker_workOutStore 13 rfl) m_Checker_193 y_Sorts_cellShift st_Sorts_cellShift (s_Sorts_cellShift h) rfl rfl (Nat.le_of_ble_eq_true rfl) (fun _ hx => by cases hx) (fun v u q => ?_) (fun n u q => q)
    obtain ⟨r, rfl, h⟩ := xqi_get q
    refine xJ.istore (o_Checker_workOutStore 14 rfl) (by decide) ?_
    refine xJ.aload_n (o_Checker_workOutStore 15 rfl) rfl ?_
    refine xJ.getfield (o_Checker_workOutStore 16 rfl) f_Checker_32 rfl rfl ?_
    refine xJ.getfield (o_Checker_workOutStore 17 rfl) f_Checker_45 rfl rfl ?_
    refine xJ.iload (o_Checker_workOutStore 18 rfl) rfl ?_
    refine xJ.laload (o_Checker_workOutStore 19 rfl) rfl h.1 ?_
    replace h := h.2
    refine xJ.iload (o_Checker_workOutStore 20 rfl) rfl ?_
    refine xJ.lshl (o_Checker_workOutStore 21 rfl) rfl ?_
    refine xJ.ldc2 (v := (-1)) (o_Checker_workOutStore 22 rfl) k_Checker_77 ?_
    refine xJ.lxor (o_Checker_workOutStore 23 rfl) ?_
    refine xJ.lstore (o_Checker_workOutStore 24 rfl) (by decide) ?_
    replace h := h _ rfl
    refine xJ.aload_n (o_Checker_workOutStore 25 rfl) rfl ?_
    refine xJ.iload_n (o_Checker_workOutStore 26 rfl) rfl ?_
    refine xJ.aload_n (o_Checker_workOutStore 27 rfl) rfl ?_
    refine xJ.getfield (o_Checker_workOutStore 28 rfl) f_Checker_9 rfl rfl ?_
    refine xJ.iload_n (o_Checker_workOutStore 29 rfl) rfl ?_
    refine xJ.laload (o_Checker_workOutStore 30 rfl) rfl h.1 ?_
    replace h := h.2
    refine xJ.lload (o_Checker_workOutStore 31 rfl) rfl ?_
    refine xJ.land (o_Checker_workOutStore 32 rfl) ?_
    refine xJ.aload_n (o_Checker_workOutStore 33 rfl) rfl ?_
    refine xJ.getfield (o_Checker_workOutStore 34 rfl) f_Checker_9 rfl rfl ?_
    refine xJ.iload (o_Checker_workOutStore 35 rfl) rfl ?_
    refine xJ.laload (o_Checker_workOutStore 36 rfl) rfl h.1 ?_
    replace h := h.2
    refine xJ.iload (o_Checker_workOutStore 37 rfl) rfl ?_
    refine xJ.lshl (o_Checker_workOutStore 38 rfl) rfl ?_
    refine xJ.lor (o_Checker_workOutStore 39 rfl) ?_
    refine xJ.aload_n (o_Checker_workOutStore 40 rfl) rfl ?_
    refine xJ.getfield (o_Checker_workOutStore 41 rfl) f_Checker_15 rfl rfl ?_
    refine xJ.iload_n (o_Checker_workOutStore 42 rfl) rfl ?_
    refine xJ.laload (o_Checker_workOutStore 43 rfl) rfl h.1 ?_
    replace h := h.2
    refine xJ.lload (o_Checker_workOutStore 44 rfl) rfl ?_
    refine xJ.land (o_Checker_workOutStore 45 rfl) ?_
    refine xJ.aload_n (o_Checker_workOutStore 46 rfl) rfl ?_
    refine xJ.getfield (o_Checker_workOutStore 47 rfl) f_Checker_15 rfl rfl ?_
    refine xJ.iload (o_Checker_workOutStore 48 rfl) rfl ?_
    refine xJ.laload (o_Checker_workOutStore 49 rfl) rfl h.1 ?_
    replace h := h.2
    refine xJ.iload (o_Checker_workOutStore 50 rfl) rfl ?_
    refine xJ.lshl (o_Checker_workOutStore 51 rfl) rfl ?_
    refine xJ.lor (o_Checker_workOutStore 52 rfl) ?_
    refine xJ.callV (Y' := Y_Checker_learn) (o_Checker_workOutStore 53 rfl) m_Checker_50 y_Checker_learn im_Checker_learn se_Checker_learn rfl rfl (s_Checker_learn h) rfl rfl (Nat.le_of_ble_eq_true rfl) (fun _ hx => by cases hx) (fun v u q => ?_) (fun n u q => q)
    obtain ⟨rfl, h⟩ := xqv_get q
    refine xJ.goto (tgt := 102) (o_Checker_workOutStore 54 rfl) (by decide) ?_
    exact xJ.return_ (o_Checker_workOutStore 60 rfl) rfl h
theorem sc_Checker_workOutComparison_167 {x : Int32} {P : Nat → Prop} (k0 : x = 36 ∨ x = 40 → P 208) (k1 : x = 37 ∨ x = 41 → P 220) (k2 : x = 38 ∨ x = 42 → P 232) (kd : ¬ x = 36 ∧ ¬ x = 37 ∧ ¬ x = 38 ∧ ¬ x = 40 ∧ ¬ x = 41 ∧ ¬ x = 42 → P 244) : ∃ t : Nat, xdst 167 77 36 42 #[41, 53, 65, 77, 41, 53, 65] x = (t : Int) ∧ P t := by
  by_cases h0_0 : x = 36
  · subst h0_0; exact ⟨208, by decide, k0 (Or.inl rfl)⟩
  by_cases h0_1 : x = 40
  · subst h0_1; exact ⟨208, by decide, k0 (Or.inr (rfl))⟩
  by_cases h1_0 : x = 37
  · subst h1_0; exact ⟨220, by decide, k1 (Or.inl rfl)⟩
  by_cases h1_1 : x = 41
  · subst h1_1; exact ⟨220, by decide, k1 (Or.inr (rfl))⟩
  by_cases h2_0 : x = 38
  · subst h2_0; exact ⟨232, by decide, k2 (Or.inl rfl)⟩
  by_cases h2_1 : x = 42
  · subst h2_1; exact ⟨232, by decide, k2 (Or.inr (rfl))⟩
  have nh0_0 := lv_neT h0_0 (show (36 : Int32).toInt = 36 by decide)
  have nh0_1 := lv_neT h0_1 (show (40 : Int32).toInt = 40 by decide)
  have nh1_0 := lv_neT h1_0 (show (37 : Int32).toInt = 37 by decide)
  have nh1_1 := lv_neT h1_1 (show (41 : Int32).toInt = 41 by decide)
  have nh2_0 := lv_neT h2_0 (show (38 : Int32).toInt = 38 by decide)
  have nh2_1 := lv_neT h2_1 (show (42 : Int32).toInt = 42 by decide)
  refine ⟨244, ?_, kd ⟨h0_0, h1_0, h2_0, h0_1, h1_1, h2_1⟩⟩
  by_cases d3 : x = 39
  · subst d3; decide
  have nd3 := lv_neT d3 (show (39 : Int32).toInt = 39 by decide)
  exact xdst_out (by omega) rfl
def w_Checker_workOutComparison_163 (Q : xO → xS → Prop) (a1 : Int32) (a4 : Int32) (a15 : Int32) (a16 : Int32) (a17 : Int32) (t0 : Int32) (σ : xS) : Prop :=
  ((a4 = 36 ∨ a4 = 40 → wp_Checker_learnEither (xqv (fun u16 => Q (.inl none) u16) (fun n u => Q (.inr n) u)) σ a1 a15 a16) ∧ (a4 = 37 ∨ a4 = 41 → wp_Checker_learnEither (xqv (fun u18 => Q (.inl none) u18) (fun n u => Q (.inr n) u)) σ a1 t0 a17) ∧ (a4 = 38 ∨ a4 = 42 → wp_Checker_learnEither (xqv (fun u20 => Q (.inl none) u20) (fun n u => Q (.inr n) u)) σ a1 a17 t0) ∧ (¬ a4 = 36 ∧ ¬ a4 = 37 ∧ ¬ a4 = 38 ∧ ¬ a4 = 40 ∧ ¬ a4 = 41 ∧ ¬ a4 = 42 → wp_Checker_learnEither (xqv (fun u22 => Q (.inl none) u22) (fun n u => Q (.inr n) u)) σ a1 a16 a15))
def w_Checker_workOutComparison_137 (Q : xO → xS → Prop) (a1 : Int32) (a4 : Int32) (a7 : Int64) (a9 : Int64) (a11 : Int64) (a13 : Int64) (a15 : Int32) (t0 : Int32) (σ : xS) : Prop :=
  wp_Words_less (xqi (fun r13 u12 => wp_Words_less (xqi (fun r15 u14 => ((¬ r15 = 0 → w_Checker_workOutComparison_163 Q a1 a4 a15 t0 r13 0 u14) ∧ (r15 = 0 → w_Checker_workOutComparison_163 Q a1 a4 a15 t0 r13 1 u14))) (fun n u => Q (.inr n) u)) u12 a11 a9) (fun n u => Q (.inr n) u)) σ a13 a7
def wp_Checker_workOutComparison (Q : xO → xS → Prop) (σ : xS) (a1 : Int32) (a2 : Int32) (a3 : Int32) : Prop :=
  (vp_in a1 2000 ∧ (∀ x1 : Int32, x1 = (xi σ 7 a1.toNatClampNeg) → (vp_in a2 2000 ∧ wp_Words_turned (xql (fun r3 u2 => (vp_in a2 2000 ∧ (vp_in a2 2000 ∧ (∀ x4 : Int64, x4 = ((xl u2 46 a2.toNatClampNeg) ^^^ (r3 &&& (xl u2 45 a2.toNatClampNeg))) → (vp_in a2 2000 ∧ (vp_in a2 2000 ∧ (∀ x5 : Int64, x5 = (x4 ||| ((xl u2 13 a2.toNatClampNeg) &&& ((xl u2 45 a2.toNatClampNeg) ^^^ (-1)))) → (vp_in a3 2000 ∧ (vp_in a3 2000 ∧ (∀ x6 : Int64, x6 = ((xl u2 46 a3.toNatClampNeg) ^^^ (r3 &&& (xl u2 45 a3.toNatClampNeg))) → (vp_in a3 2000 ∧ (vp_in a3 2000 ∧ (∀ x7 : Int64, x7 = (x6 ||| ((xl u2 13 a3.toNatClampNeg) &&& ((xl u2 45 a3.toNatClampNeg) ^^^ (-1)))) → wp_Words_less (xqi (fun r9 u8 => wp_Words_less (xqi (fun r11 u10 => ((¬ r11 = 0 → w_Checker_workOutComparison_137 Q a1 x1 x4 x5 x6 x7 r9 0 u10) ∧ (r11 = 0 → w_Checker_workOutComparison_137 Q a1 x1 x4 x5 x6 x7 r9 1 u10))) (fun n u => Q (.inr n) u)) u8 x4 x7) (fun n u => Q (.inr n) u)) u2 x5 x6))))))))))))) (fun n u => Q (.inr n) u)) σ x1 (xi σ 8 a2.toNatClampNeg))))
set_option maxRecDepth 20000 in
theorem sw_Checker_workOutComparison_163 {γ : xG1} {d b0 : Nat} {Q : xO → xS → Prop} {a1 : Int32} {a4 : Int32} {a15 : Int32} {a16 : Int32} {a17 : Int32} {t0 : Int32} {σ : xS} (h : w_Checker_workOutComparison_163 Q a1 a4 a15 a16 a17 t0 σ) : xJ (SHP, γ) Y_Checker_workOutComparison (d + 2) b0 163 [(0, .ref 44), (1, .int a1), (4, .int a4), (15, .int a15), (16, .int a16), (17, .int a17)] [.int t0] σ Q := by
  refine xJ.istore (o_Checker_workOutComparison 91 rfl) (by decide) ?_
  refine xJ.iload (o_Checker_workOutComparison 92 rfl) rfl ?_
  refine xJ.tsw (o_Checker_workOutComparison 93 rfl) (by decide) (sc_Checker_workOutComparison_167 (fun z => ?_) (fun z => ?_) (fun z => ?_) (fun z => ?_))
  · replace h := h.1 z
    refine xJ.aload_n (o_Checker_workOutComparison 94 rfl) rfl ?_
    refine xJ.iload_n (o_Checker_workOutComparison 95 rfl) rfl ?_
    refine xJ.iload (o_Checker_workOutComparison 96 rfl) rfl ?_
    refine xJ.iload (o_Checker_workOutComparison 97 rfl) rfl ?_
    refine xJ.callV (Y' := Y_Checker_learnEither) (o_Checker_workOutComparison 98 rfl) m_Checker_142 y_Checker_learnEither im_Checker_learnEither se_Checker_learnEither rfl rfl (s_Checker_learnEither h) rfl rfl (Nat.le_of_ble_eq_true rfl) (fun _ hx => by cases hx) (fun v u q => ?_) (fun n u q => q)
    obtain ⟨rfl, h⟩ := xqv_get q
    refine xJ.goto (tgt := 253) (o_Checker_workOutComparison 99 rfl) (by decide) ?_
    exact xJ.return_ (o_Checker_workOutComparison 117 rfl) rfl h
  · replace h := h.2.1 z
    refine xJ.aload_n (o_Checker_workOutComparison 100 rfl) rfl ?_
    refine xJ.iload_n (o_Checker_workOutComparison 101 rfl) rfl ?_
    refine xJ.iload (o_Checker_workOutComparison 102 rfl) rfl ?_
    refine xJ.iload (o_Checker_workOutComparison 103 rfl) rfl ?_
    refine xJ.callV (Y' := Y_Checker_learnEither) (o_Checker_workOutComparison 104 rfl) m_Checker_142 y_Checker_learnEither im_Checker_learnEither se_Checker_learnEither rfl rfl (s_Checker_learnEither h) rfl rfl (Nat.le_of_ble_eq_true rfl) (fun _ hx => by cases hx) (fun v u q => ?_) (fun n u q => q)
    obtain ⟨rfl, h⟩ := xqv_get q
    refine xJ.goto (tgt := 253) (o_Checker_workOutComparison 105 rfl) (by decide) ?_
    exact xJ.return_ (o_Checker_workOutComparison 117 rfl) rfl h
  · replace h := h.2.2.1 z
    refine xJ.aload_n (o_Checker_workOutComparison 106 rfl) rfl ?_
    refine xJ.iload_n (o_Checker_workOutComparison 107 rfl) rfl ?_
    refine xJ.iload (o_Checker_workOutComparison 108 rfl) rfl ?_
    refine xJ.iload (o_Checker_workOutComparison 109 rfl) rfl ?_
    refine xJ.callV (Y' := Y_Checker_learnEither) (o_Checker_workOutComparison 110 rfl) m_Checker_142 y_Checker_learnEither im_Checker_learnEither se_Checker_learnEither rfl rfl (s_Checker_learnEither h) rfl rfl (Nat.le_of_ble_eq_true rfl) (fun _ hx => by cases hx) (fun v u q => ?_) (fun n u q => q)
    obtain ⟨rfl, h⟩ := xqv_get q
    refine xJ.goto (tgt := 253) (o_Checker_workOutComparison 111 rfl) (by decide) ?_
    exact xJ.return_ (o_Checker_workOutComparison 117 rfl) rfl h
  · replace h := h.2.2.2 z
    refine xJ.aload_n (o_Checker_workOutComparison 112 rfl) rfl ?_
    refine xJ.iload_n (o_Checker_workOutComparison 113 rfl) rfl ?_
    refine xJ.iload (o_Checker_workOutComparison 114 rfl) rfl ?_
    refine xJ.iload (o_Checker_workOutComparison 115 rfl) rfl ?_
    refine xJ.callV (Y' := Y_Checker_learnEither) (o_Checker_workOutComparison 116 rfl) m_Checker_142 y_Checker_learnEither im_Checker_learnEither se_Checker_learnEither rfl rfl (s_Checker_learnEither h) rfl rfl (Nat.le_of_ble_eq_true rfl) (fun _ hx => by cases hx) (fun v u q => ?_) (fun n u q => q)
    obtain ⟨rfl, h⟩ := xqv_get q
    exact xJ.return_ (o_Checker_workOutComparison 117 rfl) rfl h
set_option maxRecDepth 20000 in
theorem sw_Checker_workOutComparison_137 {γ : xG1} {d b0 : Nat} {Q : xO → xS → Prop} {a1 : Int32} {a4 : Int32} {a7 : Int64} {a9 : Int64} {a11 : Int64} {a13 : Int64} {a15 : Int32} {t0 : Int32} {σ : xS} (h : w_Checker_workOutComparison_137 Q a1 a4 a7 a9 a11 a13 a15 t0 σ) : xJ (SHP, γ) Y_Checker_workOutComparison (d + 2) b0 137 [(0, .ref 44), (1, .int a1), (4, .int a4), (7, .long a7), (9, .long a9), (11, .long a11), (13, .long a13), (15, .int a15)] [.int t0] σ Q := by
  refine xJ.istore (o_Checker_workOutComparison 79 rfl) (by decide) ?_
  refine xJ.lload (o_Checker_workOutComparison 80 rfl) rfl ?_
  refine xJ.lload (o_Checker_workOutComparison 81 rfl) rfl ?_
  refine xJ.callS (Y' := Y_Words_less) (o_Checker_workOutComparison 82 rfl) m_Checker_185 y_Words_less st_Words_less (s_Words_less h) rfl rfl (Nat.le_of_ble_eq_true rfl) (fun _ hx => by cases hx) (fun v u q => ?_) (fun n u q => q)
  obtain ⟨r, rfl, h⟩ := xqi_get q
  refine xJ.istore (o_Checker_workOutComparison 83 rfl) (by decide) ?_
  refine xJ.lload (o_Checker_workOutComparison 84 rfl) rfl ?_
  refine xJ.lload (o_Checker_workOutComparison 85 rfl) rfl ?_
  refine xJ.callS (Y' := Y_Words_less) (o_Checker_workOutComparison 86 rfl) m_Checker_185 y_Words_less st_Words_less (s_Words_less h) rfl rfl (Nat.le_of_ble_eq_true rfl) (fun _ hx => by cases hx) (fun v u q => ?_) (fun n u q => q)
  obtain ⟨r, rfl, h⟩ := xqi_get q
  refine xJ.if_ne (tgt := 162) (o_Checker_workOutComparison 87 rfl) (by decide) (fun z => ?_) (fun z => ?_)
  · replace h := h.1 z
    refine xJ.iconst (v := 0) (o_Checker_workOutComparison 90 rfl) (by decide) ?_
    exact xJ.lvs (by exact ⟨rfl, rfl, rfl, rfl, rfl, rfl, trivial⟩) (sw_Checker_workOutComparison_163 h)
  · replace h := h.2 z
    refine xJ.iconst (v := 1) (o_Checker_workOutComparison 88 rfl) (by decide) ?_
    refine xJ.goto (tgt := 163) (o_Checker_workOutComparison 89 rfl) (by decide) ?_
    exact xJ.lvs (by exact ⟨rfl, rfl, rfl, rfl, rfl, rfl, trivial⟩) (sw_Checker_workOutComparison_163 h)
set_option maxRecDepth 20000 in
theorem s_Checker_workOutComparison {γ : xG1} {d : Nat} {Q : xO → xS → Prop} {σ : xS} {a1 : Int32} {a2 : Int32} {a3 : Int32} (h : wp_Checker_workOutComparison Q σ a1 a2 a3) : xM (SHP, γ) Y_Checker_workOutComparison (d + 2) [.ref 44, .int a1, .int a2, .int a3] σ Q := by
  refine xM.of (by decide) (Nat.le_of_ble_eq_true rfl) ?_
  refine xJ.aload_n (o_Checker_workOutComparison 0 rfl) rfl ?_
  refine xJ.getfield (o_Checker_workOutComparison 1 rfl) f_Checker_32 rfl rfl ?_
  refine xJ.getfield (o_Checker_workOutComparison 2 rfl) f_Checker_68 rfl rfl ?_
  refine xJ.iload_n (o_Checker_workOutComparison 3 rfl) rfl ?_
  refine xJ.iaload (o_Checker_workOutComparison 4 rfl) rfl h.1 ?_
  replace h := h.2
  refine xJ.istore (o_Checker_workOutComparison 5 rfl) (by decide) ?_
  replace h := h _ rfl
  refine xJ.iload (o_Checker_workOutComparison 6 rfl) rfl ?_
  refine xJ.aload_n (o_Checker_workOutComparison 7 rfl) rfl ?_
  refine xJ.getfield (o_Checker_workOutComparison 8 rfl) f_Checker_32 rfl rfl ?_
  refine xJ.getfield (o_Checker_workOutComparison 9 rfl) f_Checker_167 rfl rfl ?_
  refine xJ.iload_n (o_Checker_workOutComparison 10 rfl) rfl ?_
  refine xJ.iaload (o_Checker_workOutComparison 11 rfl) rfl h.1 ?_
  replace h := h.2
  refine xJ.callS (Y' := Y_Words_turned) (o_Checker_workOutComparison 12 rfl) m_Checker_189 y_Words_turned st_Words_turned (s_Words_turned h) rfl rfl (Nat.le_of_ble_eq_true rfl) (fun _ hx => by cases hx) (fun v u q => ?_) (fun n u q => q)
  obtain ⟨r, rfl, h⟩ := xql_get q
  refine xJ.lstore (o_Checker_workOutComparison 13 rfl) (by decide) ?_
  refine xJ.aload_n (o_Checker_workOutComparison 14 rfl) rfl ?_
  refine xJ.getfield (o_Checker_workOutComparison 15 rfl) f_Checker_15 rfl rfl ?_
  refine xJ.iload_n (o_Checker_workOutComparison 16 rfl) rfl ?_
  refine xJ.laload (o_Checker_workOutComparison 17 rfl) rfl h.1 ?_
  replace h := h.2
  refine xJ.lload (o_Checker_workOutComparison 18 rfl) rfl ?_
  refine xJ.aload_n (o_Checker_workOutComparison 19 rfl) rfl ?_
  refine xJ.getfield (o_Checker_workOutComparison 20 rfl) f_Checker_9 rfl rfl ?_
  refine xJ.iload_n (o_Checker_workOutComparison 21 rfl) rfl ?_
  refine xJ.laload (o_Checker_workOutComparison 22 rfl) rfl h.1 ?_
  replace h := h.2
  refine xJ.land (o_Checker_workOutComparison 23 rfl) ?_
  refine xJ.lxor (o_Checker_workOutComparison 24 rfl) ?_
  refine xJ.lstore (o_Checker_workOutComparison 25 rfl) (by decide) ?_
  replace h := h _ rfl
  refine xJ.lload (o_Checker_workOutComparison 26 rfl) rfl ?_
  refine xJ.aload_n (o_Checker_workOutComparison 27 rfl) rfl ?_
  refine xJ.getfield (o_Checker_workOutComparison 28 rfl) f_Checker_32 rfl rfl ?_
  refine xJ.getfield (o_Checker_workOutComparison 29 rfl) f_Checker_45 rfl rfl ?_
  refine xJ.iload_n (o_Checker_workOutComparison 30 rfl) rfl ?_
  refine xJ.laload (o_Checker_workOutComparison 31 rfl) rfl h.1 ?_
  replace h := h.2
  refine xJ.aload_n (o_Checker_workOutComparison 32 rfl) rfl ?_
  refine xJ.getfield (o_Checker_workOutComparison 33 rfl) f_Checker_9 rfl rfl ?_
  refine xJ.iload_n (o_Checker_workOutComparison 34 rfl) rfl ?_
  refine xJ.laload (o_Checker_workOutComparison 35 rfl) rfl h.1 ?_
  replace h := h.2
  refine xJ.ldc2 (v := (-1)) (o_Checker_workOutComparison 36 rfl) k_Checker_77 ?_
  refine xJ.lxor (o_Checker_workOutComparison 37 rfl) ?_
  refine xJ.land (o_Checker_workOutComparison 38 rfl) ?_
  refine xJ.lor (o_Checker_workOutComparison 39 rfl) ?_
  refine xJ.lstore (o_Checker_workOutComparison 40 rfl) (by decide) ?_
  replace h := h _ rfl
  refine xJ.aload_n (o_Checker_workOutComparison 41 rfl) rfl ?_
  refine xJ.getfield (o_Checker_workOutComparison 42 rfl) f_Checker_15 rfl rfl ?_
  refine xJ.iload_n (o_Checker_workOutComparison 43 rfl) rfl ?_
  refine xJ.laload (o_Checker_workOutComparison 44 rfl) rfl h.1 ?_
  replace h := h.2
  refine xJ.lload (o_Checker_workOutComparison 45 rfl) rfl ?_
  refine xJ.aload_n (o_Checker_workOutComparison 46 rfl) rfl ?_
  refine xJ.getfield (o_Checker_workOutComparison 47 rfl) f_Checker_9 rfl rfl ?_
  refine xJ.iload_n (o_Checker_workOutComparison 48 rfl) rfl ?_
  refine xJ.laload (o_Checker_workOutComparison 49 rfl) rfl h.1 ?_
  replace h := h.2
  refine xJ.land (o_Checker_workOutComparison 50 rfl) ?_
  refine xJ.lxor (o_Checker_workOutComparison 51 rfl) ?_
  refine xJ.lstore (o_Checker_workOutComparison 52 rfl) (by decide) ?_
  replace h := h _ rfl
  refine xJ.lload (o_Checker_workOutComparison 53 rfl) rfl ?_
  refine xJ.aload_n (o_Checker_workOutComparison 54 rfl) rfl ?_
  refine xJ.getfield (o_Checker_workOutComparison 55 rfl) f_Checker_32 rfl rfl ?_
  refine xJ.getfield (o_Checker_workOutComparison 56 rfl) f_Checker_45 rfl rfl ?_
  refine xJ.iload_n (o_Checker_workOutComparison 57 rfl) rfl ?_
  refine xJ.laload (o_Checker_workOutComparison 58 rfl) rfl h.1 ?_
  replace h := h.2
  refine xJ.aload_n (o_Checker_workOutComparison 59 rfl) rfl ?_
  refine xJ.getfield (o_Checker_workOutComparison 60 rfl) f_Checker_9 rfl rfl ?_
  refine xJ.iload_n (o_Checker_workOutComparison 61 rfl) rfl ?_
  refine xJ.laload (o_Checker_workOutComparison 62 rfl) rfl h.1 ?_
  replace h := h.2
  refine xJ.ldc2 (v := (-1)) (o_Checker_workOutComparison 63 rfl) k_Checker_77 ?_
  refine xJ.lxor (o_Checker_workOutComparison 64 rfl) ?_
  refine xJ.land (o_Checker_workOutComparison 65 rfl) ?_
  refine xJ.lor (o_Checker_workOutComparison 66 rfl) ?_
  refine xJ.lstore (o_Checker_workOutComparison 67 rfl) (by decide) ?_
  replace h := h _ rfl
  refine xJ.lload (o_Checker_workOutComparison 68 rfl) rfl ?_
  refine xJ.lload (o_Checker_workOutComparison 69 rfl) rfl ?_
  refine xJ.callS (Y' := Y_Words_less) (o_Checker_workOutComparison 70 rfl) m_Checker_185 y_Words_less st_Words_less (s_Words_less h) rfl rfl (Nat.le_of_ble_eq_true rfl) (fun _ hx => by cases hx) (fun v u q => ?_) (fun n u q => q)
  obtain ⟨r, rfl, h⟩ := xqi_get q
  refine xJ.istore (o_Checker_workOutComparison 71 rfl) (by decide) ?_
  refine xJ.lload (o_Checker_workOutComparison 72 rfl) rfl ?_
  refine xJ.lload (o_Checker_workOutComparison 73 rfl) rfl ?_
  refine xJ.callS (Y' := Y_Words_less) (o_Checker_workOutComparison 74 rfl) m_Checker_185 y_Words_less st_Words_less (s_Words_less h) rfl rfl (Nat.le_of_ble_eq_true rfl) (fun _ hx => by cases hx) (fun v u q => ?_) (fun n u q => q)
  obtain ⟨r, rfl, h⟩ := xqi_get q
  refine xJ.if_ne (tgt := 136) (o_Checker_workOutComparison 75 rfl) (by decide) (fun z => ?_) (fun z => ?_)
  · replace h := h.1 z
    refine xJ.iconst (v := 0) (o_Checker_workOutComparison 78 rfl) (by decide) ?_
    exact xJ.lvs (by exact ⟨rfl, rfl, rfl, rfl, rfl, rfl, rfl, rfl, trivial⟩) (sw_Checker_workOutComparison_137 h)
  · replace h := h.2 z
    refine xJ.iconst (v := 1) (o_Checker_workOutComparison 76 rfl) (by decide) ?_
    refine xJ.goto (tgt := 137) (o_Checker_workOutComparison 77 rfl) (by decide) ?_
    exact xJ.lvs (by exact ⟨rfl, rfl, rfl, rfl, rfl, rfl, rfl, rfl, trivial⟩) (sw_Checker_workOutComparison_137 h)
theorem sc_Checker_workOut_11 {x : Int32} {P : Nat → Prop} (k0 : x = 10 ∨ x = 11 ∨ x = 12 ∨ x = 22 → P 363) (k1 : x = 13 ∨ x = 21 → P 209) (k2 : x = 14 ∨ x = 23 → P 249) (k3 : x = 15 ∨ x = 17 ∨ x = 24 → P 257) (k4 : x = 16 ∨ x = 25 → P 276) (k5 : x = 18 → P 284) (k6 : x = 19 → P 323) (k7 : x = 20 → P 331) (k8 : x = 26 → P 339) (k9 : x = 27 → P 347) (k10 : x = 28 → P 380) (k11 : x = 29 ∨ x = 30 ∨ x = 31 ∨ x = 32 → P 408) (k12 : x = 33 ∨ x = 34 ∨ x = 35 → P 436) (k13 : x = 44 → P 355) (k14 : x = 45 → P 464) (k15 : x = 46 → P 492) (k16 : x = 47 → P 180) (k17 : x = 48 → P 183) (kd : ¬ x = 10 ∧ ¬ x = 11 ∧ ¬ x = 12 ∧ ¬ x = 13 ∧ ¬ x = 14 ∧ ¬ x = 15 ∧ ¬ x = 16 ∧ ¬ x = 17 ∧ ¬ x = 18 ∧ ¬ x = 19 ∧ ¬ x = 20 ∧ ¬ x = 21 ∧ ¬ x = 22 ∧ ¬ x = 23 ∧ ¬ x = 24 ∧ ¬ x = 25 ∧ ¬ x = 26 ∧ ¬ x = 27 ∧ ¬ x = 28 ∧ ¬ x = 29 ∧ ¬ x = 30 ∧ ¬ x = 31 ∧ ¬ x = 32 ∧ ¬ x = 33 ∧ ¬ x = 34 ∧ ¬ x = 35 ∧ ¬ x = 44 ∧ ¬ x = 45 ∧ ¬ x = 46 ∧ ¬ x = 47 ∧ ¬ x = 48 → P 531) : ∃ t : Nat, xdst 11 520 10 48 #[352, 352, 352, 198, 238, 246, 265, 246, 273, 312, 320, 198, 352, 238, 246, 265, 328, 336, 369, 397, 397, 397, 397, 425, 425, 425, 520, 520, 520, 520, 520, 520, 520, 520, 344, 453, 481, 169, 172] x = (t : Int) ∧ P t := by
  by_cases h0_0 : x = 10
  · subst h0_0; exact ⟨363, by decide, k0 (Or.inl rfl)⟩
  by_cases h0_1 : x = 11
  · subst h0_1; exact ⟨363, by decide, k0 (Or.inr (Or.inl rfl))⟩
  by_cases h0_2 : x = 12
  · subst h0_2; exact ⟨363, by decide, k0 (Or.inr (Or.inr (Or.inl rfl)))⟩
  by_cases h0_3 : x = 22
  · subst h0_3; exact ⟨363, by decide, k0 (Or.inr (Or.inr (Or.inr (rfl))))⟩
  by_cases h1_0 : x = 13
  · subst h1_0; exact ⟨209, by decide, k1 (Or.inl rfl)⟩
  by_cases h1_1 : x = 21
  · subst h1_1; exact ⟨209, by decide, k1 (Or.inr (rfl))⟩
  by_cases h2_0 : x = 14
  · subst h2_0; exact ⟨249, by decide, k2 (Or.inl rfl)⟩
  by_cases h2_1 : x = 23
  · subst h2_1; exact ⟨249, by decide, k2 (Or.inr (rfl))⟩
  by_cases h3_0 : x = 15
  · subst h3_0; exact ⟨257, by decide, k3 (Or.inl rfl)⟩
  by_cases h3_1 : x = 17
  · subst h3_1; exact ⟨257, by decide, k3 (Or.inr (Or.inl rfl))⟩
  by_cases h3_2 : x = 24
  · subst h3_2; exact ⟨257, by decide, k3 (Or.inr (Or.inr (rfl)))⟩
  by_cases h4_0 : x = 16
  · subst h4_0; exact ⟨276, by decide, k4 (Or.inl rfl)⟩
  by_cases h4_1 : x = 25
  · subst h4_1; exact ⟨276, by decide, k4 (Or.inr (rfl))⟩
  by_cases h5_0 : x = 18
  · subst h5_0; exact ⟨284, by decide, k5 (rfl)⟩
  by_cases h6_0 : x = 19
  · subst h6_0; exact ⟨323, by decide, k6 (rfl)⟩
  by_cases h7_0 : x = 20
  · subst h7_0; exact ⟨331, by decide, k7 (rfl)⟩
  by_cases h8_0 : x = 26
  · subst h8_0; exact ⟨339, by decide, k8 (rfl)⟩
  by_cases h9_0 : x = 27
  · subst h9_0; exact ⟨347, by decide, k9 (rfl)⟩
  by_cases h10_0 : x = 28
  · subst h10_0; exact ⟨380, by decide, k10 (rfl)⟩
  by_cases h11_0 : x = 29
  · subst h11_0; exact ⟨408, by decide, k11 (Or.inl rfl)⟩
  by_cases h11_1 : x = 30
  · subst h11_1; exact ⟨408, by decide, k11 (Or.inr (Or.inl rfl))⟩
  by_cases h11_2 : x = 31
  · subst h11_2; exact ⟨408, by decide, k11 (Or.inr (Or.inr (Or.inl rfl)))⟩
  by_cases h11_3 : x = 32
  · subst h11_3; exact ⟨408, by decide, k11 (Or.inr (Or.inr (Or.inr (rfl))))⟩
  by_cases h12_0 : x = 33
  · subst h12_0; exact ⟨436, by decide, k12 (Or.inl rfl)⟩
  by_cases h12_1 : x = 34
  · subst h12_1; exact ⟨436, by decide, k12 (Or.inr (Or.inl rfl))⟩
  by_cases h12_2 : x = 35
  · subst h12_2; exact ⟨436, by decide, k12 (Or.inr (Or.inr (rfl)))⟩
  by_cases h13_0 : x = 44
  · subst h13_0; exact ⟨355, by decide, k13 (rfl)⟩
  by_cases h14_0 : x = 45
  · subst h14_0; exact ⟨464, by decide, k14 (rfl)⟩
  by_cases h15_0 : x = 46
  · subst h15_0; exact ⟨492, by decide, k15 (rfl)⟩
  by_cases h16_0 : x = 47
  · subst h16_0; exact ⟨180, by decide, k16 (rfl)⟩
  by_cases h17_0 : x = 48
  · subst h17_0; exact ⟨183, by decide, k17 (rfl)⟩
  have nh0_0 := lv_neT h0_0 (show (10 : Int32).toInt = 10 by decide)
  have nh0_1 := lv_neT h0_1 (show (11 : Int32).toInt = 11 by decide)
  have nh0_2 := lv_neT h0_2 (show (12 : Int32).toInt = 12 by decide)
  have nh0_3 := lv_neT h0_3 (show (22 : Int32).toInt = 22 by decide)
  have nh1_0 := lv_neT h1_0 (show (13 : Int32).toInt = 13 by decide)
  have nh1_1 := lv_neT h1_1 (show (21 : Int32).toInt = 21 by decide)
  have nh2_0 := lv_neT h2_0 (show (14 : Int32).toInt = 14 by decide)
  have nh2_1 := lv_neT h2_1 (show (23 : Int32).toInt = 23 by decide)
  have nh3_0 := lv_neT h3_0 (show (15 : Int32).toInt = 15 by decide)
  have nh3_1 := lv_neT h3_1 (show (17 : Int32).toInt = 17 by decide)
  have nh3_2 := lv_neT h3_2 (show (24 : Int32).toInt = 24 by decide)
  have nh4_0 := lv_neT h4_0 (show (16 : Int32).toInt = 16 by decide)
  have nh4_1 := lv_neT h4_1 (show (25 : Int32).toInt = 25 by decide)
  have nh5_0 := lv_neT h5_0 (show (18 : Int32).toInt = 18 by decide)
  have nh6_0 := lv_neT h6_0 (show (19 : Int32).toInt = 19 by decide)
  have nh7_0 := lv_neT h7_0 (show (20 : Int32).toInt = 20 by decide)
  have nh8_0 := lv_neT h8_0 (show (26 : Int32).toInt = 26 by decide)
  have nh9_0 := lv_neT h9_0 (show (27 : Int32).toInt = 27 by decide)
  have nh10_0 := lv_neT h10_0 (show (28 : Int32).toInt = 28 by decide)
  have nh11_0 := lv_neT h11_0 (show (29 : Int32).toInt = 29 by decide)
  have nh11_1 := lv_neT h11_1 (show (30 : Int32).toInt = 30 by decide)
  have nh11_2 := lv_neT h11_2 (show (31 : Int32).toInt = 31 by decide)
  have nh11_3 := lv_neT h11_3 (show (32 : Int32).toInt = 32 by decide)
  have nh12_0 := lv_neT h12_0 (show (33 : Int32).toInt = 33 by decide)
  have nh12_1 := lv_neT h12_1 (show (34 : Int32).toInt = 34 by decide)
  have nh12_2 := lv_neT h12_2 (show (35 : Int32).toInt = 35 by decide)
  have nh13_0 := lv_neT h13_0 (show (44 : Int32).toInt = 44 by decide)
  have nh14_0 := lv_neT h14_0 (show (45 : Int32).toInt = 45 by decide)
  have nh15_0 := lv_neT h15_0 (show (46 : Int32).toInt = 46 by decide)
  have nh16_0 := lv_neT h16_0 (show (47 : Int32).toInt = 47 by decide)
  have nh17_0 := lv_neT h17_0 (show (48 : Int32).toInt = 48 by decide)
  refine ⟨531, ?_, kd ⟨h0_0, h0_1, h0_2, h1_0, h2_0, h3_0, h4_0, h3_1, h5_0, h6_0, h7_0, h1_1, h0_3, h2_1, h3_2, h4_1, h8_0, h9_0, h10_0, h11_0, h11_1, h11_2, h11_3, h12_0, h12_1, h12_2, h13_0, h14_0, h15_0, h16_0, h17_0⟩⟩
  by_cases d26 : x = 36
  · subst d26; decide
  by_cases d27 : x = 37
  · subst d27; decide
  by_cases d28 : x = 38
  · subst d28; decide
  by_cases d29 : x = 39
  · subst d29; decide
  by_cases d30 : x = 40
  · subst d30; decide
  by_cases d31 : x = 41
  · subst d31; decide
  by_cases d32 : x = 42
  · subst d32; decide
  by_cases d33 : x = 43
  · subst d33; decide
  have nd26 := lv_neT d26 (show (36 : Int32).toInt = 36 by decide)
  have nd27 := lv_neT d27 (show (37 : Int32).toInt = 37 by decide)
  have nd28 := lv_neT d28 (show (38 : Int32).toInt = 38 by decide)
  have nd29 := lv_neT d29 (show (39 : Int32).toInt = 39 by decide)
  have nd30 := lv_neT d30 (show (40 : Int32).toInt = 40 by decide)
  have nd31 := lv_neT d31 (show (41 : Int32).toInt = 41 by decide)
  have nd32 := lv_neT d32 (show (42 : Int32).toInt = 42 by decide)
  have nd33 := lv_neT d33 (show (43 : Int32).toInt = 43 by decide)
  exact xdst_out (by omega) rfl
def w_Checker_workOut_270 (Q : xO → xS → Prop) (t1 : Int32) (t2 : Int32) (σ : xS) : Prop :=
  wp_Checker_workOutOr (xqv (fun u8 => Q (.inl none) u8) (fun n u => Q (.inr n) u)) σ t1 t2
def wp_Checker_workOut (Q : xO → xS → Prop) (σ : xS) (a1 : Int32) (a2 : Int32) : Prop :=
  (vp_in a1 2000 ∧ (∀ x1 : Int32, x1 = (xi σ 7 a1.toNatClampNeg) → ((x1 = 10 ∨ x1 = 11 ∨ x1 = 12 ∨ x1 = 22 → (vp_in a2 80000 ∧ wp_Checker_workOutOfOne (xqv (fun u2 => Q (.inl none) u2) (fun n u => Q (.inr n) u)) σ a1 (xi σ 10 a2.toNatClampNeg))) ∧ (x1 = 13 ∨ x1 = 21 → (vp_in a2 80000 ∧ (vp_in (xi σ 10 a2.toNatClampNeg) 2000 ∧ (vp_in a2 80000 ∧ (vp_in (xi σ 10 a2.toNatClampNeg) 2000 ∧ wp_Checker_learn (xqv (fun u4 => Q (.inl none) u4) (fun n u => Q (.inr n) u)) σ a1 (xl σ 45 (xi σ 10 a2.toNatClampNeg).toNatClampNeg) ((xl σ 46 (xi σ 10 a2.toNatClampNeg).toNatClampNeg) ^^^ (-1))))))) ∧ (x1 = 14 ∨ x1 = 23 → wp_Checker_workOutAnd (xqv (fun u6 => Q (.inl none) u6) (fun n u => Q (.inr n) u)) σ a1) ∧ (x1 = 15 ∨ x1 = 17 ∨ x1 = 24 → ((¬ x1 = 17 → w_Checker_workOut_270 Q a1 0 σ) ∧ (x1 = 17 → w_Checker_workOut_270 Q a1 1 σ))) ∧ (x1 = 16 ∨ x1 = 25 → wp_Checker_workOutXor (xqv (fun u10 => Q (.inl none) u10) (fun n u => Q (.inr n) u)) σ a1) ∧ (x1 = 18 → (vp_in a2 80000 ∧ (vp_in (a2 + 1) 80000 ∧ (vp_in (a2 + 2) 80000 ∧ wp_Checker_workOutIte (xqv (fun u12 => Q (.inl none) u12) (fun n u => Q (.inr n) u)) σ a1 (xi σ 10 a2.toNatClampNeg) (xi σ 10 (a2 + 1).toNatClampNeg) (xi σ 10 (a2 + 2).toNatClampNeg))))) ∧ (x1 = 19 → wp_Checker_workOutEqual (xqv (fun u14 => Q (.inl none) u14) (fun n u => Q (.inr n) u)) σ a1) ∧ (x1 = 20 → wp_Checker_workOutDistinct (xqv (fun u16 => Q (.inl none) u16) (fun n u => Q (.inr n) u)) σ a1) ∧ (x1 = 26 → wp_Checker_workOutSum (xqv (fun u18 => Q (.inl none) u18) (fun n u => Q (.inr n) u)) σ a1) ∧ (x1 = 27 → wp_Checker_workOutProduct (xqv (fun u20 => Q (.inl none) u20) (fun n u => Q (.inr n) u)) σ a1) ∧ (x1 = 28 → (vp_in a2 80000 ∧ (vp_in (a2 + 1) 80000 ∧ wp_Checker_workOutDifference (xqv (fun u22 => Q (.inl none) u22) (fun n u => Q (.inr n) u)) σ a1 (xi σ 10 a2.toNatClampNeg) (xi σ 10 (a2 + 1).toNatClampNeg)))) ∧ (x1 = 29 ∨ x1 = 30 ∨ x1 = 31 ∨ x1 = 32 → (vp_in a2 80000 ∧ (vp_in (a2 + 1) 80000 ∧ wp_Checker_workOutDivision (xqv (fun u24 => Q (.inl none) u24) (fun n u => Q (.inr n) u)) σ a1 (xi σ 10 a2.toNatClampNeg) (xi σ 10 (a2 + 1).toNatClampNeg)))) ∧ (x1 = 33 ∨ x1 = 34 ∨ x1 = 35 → (vp_in a2 80000 ∧ (vp_in (a2 + 1) 80000 ∧ wp_Checker_workOutShift (xqv (fun u26 => Q (.inl none) u26) (fun n u => Q (.inr n) u)) σ a1 (xi σ 10 a2.toNatClampNeg) (xi σ 10 (a2 + 1).toNatClampNeg)))) ∧ (x1 = 44 → wp_Checker_workOutConcat (xqv (fun u28 => Q (.inl none) u28) (fun n u => Q (.inr n) u)) σ a1) ∧ (x1 = 45 → (vp_in a2 80000 ∧ (vp_in (a2 + 1) 80000 ∧ wp_Checker_workOutSelect (xqv (fun u30 => Q (.inl none) u30) (fun n u => Q (.inr n) u)) σ a1 (xi σ 10 a2.toNatClampNeg) (xi σ 10 (a2 + 1).toNatClampNeg)))) ∧ (x1 = 46 → (vp_in a2 80000 ∧ (vp_in (a2 + 1) 80000 ∧ (vp_in (a2 + 2) 80000 ∧ wp_Checker_workOutStore (xqv (fun u32 => Q (.inl none) u32) (fun n u => Q (.inr n) u)) σ a1 (xi σ 10 a2.toNatClampNeg) (xi σ 10 (a2 + 1).toNatClampNeg) (xi σ 10 (a2 + 2).toNatClampNeg))))) ∧ (x1 = 47 → Q (.inl none) σ) ∧ (x1 = 48 → (vp_in a1 2000 ∧ (vp_in a1 2000 ∧ wp_Checker_learn (xqv (fun u34 => Q (.inl none) u34) (fun n u => Q (.inr n) u)) σ a1 (xl σ 13 a1.toNatClampNeg) (xl σ 12 a1.toNatClampNeg)))) ∧ (¬ x1 = 10 ∧ ¬ x1 = 11 ∧ ¬ x1 = 12 ∧ ¬ x1 = 13 ∧ ¬ x1 = 14 ∧ ¬ x1 = 15 ∧ ¬ x1 = 16 ∧ ¬ x1 = 17 ∧ ¬ x1 = 18 ∧ ¬ x1 = 19 ∧ ¬ x1 = 20 ∧ ¬ x1 = 21 ∧ ¬ x1 = 22 ∧ ¬ x1 = 23 ∧ ¬ x1 = 24 ∧ ¬ x1 = 25 ∧ ¬ x1 = 26 ∧ ¬ x1 = 27 ∧ ¬ x1 = 28 ∧ ¬ x1 = 29 ∧ ¬ x1 = 30 ∧ ¬ x1 = 31 ∧ ¬ x1 = 32 ∧ ¬ x1 = 33 ∧ ¬ x1 = 34 ∧ ¬ x1 = 35 ∧ ¬ x1 = 44 ∧ ¬ x1 = 45 ∧ ¬ x1 = 46 ∧ ¬ x1 = 47 ∧ ¬ x1 = 48 → (vp_in a2 80000 ∧ (vp_in (a2 + 1) 80000 ∧ wp_Checker_workOutComparison (xqv (fun u36 => Q (.inl none) u36) (fun n u => Q (.inr n) u)) σ a1 (xi σ 10 a2.toNatClampNeg) (xi σ 10 (a2 + 1).toNatClampNeg)))))))
set_option maxRecDepth 20000 in
theorem sw_Checker_workOut_270 {γ : xG1} {d b0 : Nat} {Q : xO → xS → Prop} {t1 : Int32} {t2 : Int32} {σ : xS} (h : w_Checker_workOut_270 Q t1 t2 σ) : xJ (SHP, γ) Y_Checker_workOut (d + 3) b0 270 [] [.int t2, .int t1, .ref 44] σ Q := by
  refine xJ.callV (Y' := Y_Checker_workOutOr) (o_Checker_workOut 57 rfl) m_Checker_83 y_Checker_workOutOr im_Checker_workOutOr se_Checker_workOutOr rfl rfl (s_Checker_workOutOr h) rfl rfl (Nat.le_of_ble_eq_true rfl) (fun _ hx => by cases hx) (fun v u q => ?_) (fun n u q => q)
  obtain ⟨rfl, h⟩ := xqv_get q
  refine xJ.goto (tgt := 556) (o_Checker_workOut 58 rfl) (by decide) ?_
  exact xJ.return_ (o_Checker_workOut 217 rfl) rfl h
set_option maxRecDepth 20000 in
theorem s_Checker_workOut {γ : xG1} {d : Nat} {Q : xO → xS → Prop} {σ : xS} {a1 : Int32} {a2 : Int32} (h : wp_Checker_workOut Q σ a1 a2) : xM (SHP, γ) Y_Checker_workOut (d + 3) [.ref 44, .int a1, .int a2] σ Q := by
  refine xM.of (by decide) (Nat.le_of_ble_eq_true rfl) ?_
  refine xJ.aload_n (o_Checker_workOut 0 rfl) rfl ?_
  refine xJ.getfield (o_Checker_workOut 1 rfl) f_Checker_32 rfl rfl ?_
  refine xJ.getfield (o_Checker_workOut 2 rfl) f_Checker_68 rfl rfl ?_
  refine xJ.iload_n (o_Checker_workOut 3 rfl) rfl ?_
  refine xJ.iaload (o_Checker_workOut 4 rfl) rfl h.1 ?_
  replace h := h.2
  refine xJ.istore_n (o_Checker_workOut 5 rfl) (by decide) ?_
  replace h := h _ rfl
  refine xJ.iload_n (o_Checker_workOut 6 rfl) rfl ?_
  refine xJ.tsw (o_Checker_workOut 7 rfl) (by decide) (sc_Checker_workOut_11 (fun z => ?_) (fun z => ?_) (fun z => ?_) (fun z => ?_) (fun z => ?_) (fun z => ?_) (fun z => ?_) (fun z => ?_) (fun z => ?_) (fun z => ?_) (fun z => ?_) (fun z => ?_) (fun z => ?_) (fun z => ?_) (fun z => ?_) (fun z => ?_) (fun z => ?_) (fun z => ?_) (fun z => ?_))
  · replace h := h.1 z
    refine xJ.aload_n (o_Checker_workOut 106 rfl) rfl ?_
    refine xJ.iload_n (o_Checker_workOut 107 rfl) rfl ?_
    refine xJ.aload_n (o_Checker_workOut 108 rfl) rfl ?_
    refine xJ.getfield (o_Checker_workOut 109 rfl) f_Checker_32 rfl rfl ?_
    refine xJ.getfield (o_Checker_workOut 110 rfl) f_Checker_74 rfl rfl ?_
    refine xJ.iload_n (o_Checker_workOut 111 rfl) rfl ?_
    refine xJ.iaload (o_Checker_workOut 112 rfl) rfl h.1 ?_
    replace h := h.2
    refine xJ.callV (Y' := Y_Checker_workOutOfOne) (o_Checker_workOut 113 rfl) m_Checker_109 y_Checker_workOutOfOne im_Checker_workOutOfOne se_Checker_workOutOfOne rfl rfl (s_Checker_workOutOfOne h) rfl rfl (Nat.le_of_ble_eq_true rfl) (fun _ hx => by cases hx) (fun v u q => ?_) (fun n u q => q)
    obtain ⟨rfl, h⟩ := xqv_get q
    refine xJ.goto (tgt := 556) (o_Checker_workOut 114 rfl) (by decide) ?_
    exact xJ.return_ (o_Checker_workOut 217 rfl) rfl h
  · replace h := h.2.1 z
    refine xJ.aload_n (o_Checker_workOut 23 rfl) rfl ?_
    refine xJ.iload_n (o_Checker_workOut 24 rfl) rfl ?_
    refine xJ.aload_n (o_Checker_workOut 25 rfl) rfl ?_
    refine xJ.getfield (o_Checker_workOut 26 rfl) f_Checker_9 rfl rfl ?_
    refine xJ.aload_n (o_Checker_workOut 27 rfl) rfl ?_
    refine xJ.getfield (o_Checker_workOut 28 rfl) f_Checker_32 rfl rfl ?_
    refine xJ.getfield (o_Checker_workOut 29 rfl) f_Checker_74 rfl rfl ?_
    refine xJ.iload_n (o_Checker_workOut 30 rfl) rfl ?_
    refine xJ.iaload (o_Checker_workOut 31 rfl) rfl h.1 ?_
    replace h := h.2
    refine xJ.laload (o_Checker_workOut 32 rfl) rfl h.1 ?_
    replace h := h.2
    refine xJ.aload_n (o_Checker_workOut 33 rfl) rfl ?_
    refine xJ.getfield (o_Checker_workOut 34 rfl) f_Checker_15 rfl rfl ?_
    refine xJ.aload_n (o_Checker_workOut 35 rfl) rfl ?_
    refine xJ.getfield (o_Checker_workOut 36 rfl) f_Checker_32 rfl rfl ?_
    refine xJ.getfield (o_Checker_workOut 37 rfl) f_Checker_74 rfl rfl ?_
    refine xJ.iload_n (o_Checker_workOut 38 rfl) rfl ?_
    refine xJ.iaload (o_Checker_workOut 39 rfl) rfl h.1 ?_
    replace h := h.2
    refine xJ.laload (o_Checker_workOut 40 rfl) rfl h.1 ?_
    replace h := h.2
    refine xJ.ldc2 (v := (-1)) (o_Checker_workOut 41 rfl) k_Checker_77 ?_
    refine xJ.lxor (o_Checker_workOut 42 rfl) ?_
    refine xJ.callV (Y' := Y_Checker_learn) (o_Checker_workOut 43 rfl) m_Checker_50 y_Checker_learn im_Checker_learn se_Checker_learn rfl rfl (s_Checker_learn h) rfl rfl (Nat.le_of_ble_eq_true rfl) (fun _ hx => by cases hx) (fun v u q => ?_) (fun n u q => q)
    obtain ⟨rfl, h⟩ := xqv_get q
    refine xJ.goto (tgt := 556) (o_Checker_workOut 44 rfl) (by decide) ?_
    exact xJ.return_ (o_Checker_workOut 217 rfl) rfl h
  · replace h := h.2.2.1 z
    refine xJ.aload_n (o_Checker_workOut 45 rfl) rfl ?_
    refine xJ.iload_n (o_Checker_workOut 46 rfl) rfl ?_
    refine xJ.callV (Y' := Y_Checker_workOutAnd) (o_Checker_workOut 47 rfl) m_Checker_79 y_Checker_workOutAnd im_Checker_workOutAnd se_Checker_workOutAnd rfl rfl (s_Checker_workOutAnd h) rfl rfl (Nat.le_of_ble_eq_true rfl) (fun _ hx => by cases hx) (fun v u q => ?_) (fun n u q => q)
    obtain ⟨rfl, h⟩ := xqv_get q
    refine xJ.goto (tgt := 556) (o_Checker_workOut 48 rfl) (by decide) ?_
    exact xJ.return_ (o_Checker_workOut 217 rfl) rfl h
  · replace h := h.2.2.2.1 z
    refine xJ.aload_n (o_Checker_workOut 49 rfl) rfl ?_
    refine xJ.iload_n (o_Checker_workOut 50 rfl) rfl ?_
    refine xJ.iload_n (o_Checker_workOut 51 rfl) rfl ?_
    refine xJ.bipush (v := 17) (o_Checker_workOut 52 rfl) (by decide) ?_
    refine xJ.icmp_ne (tgt := 269) (o_Checker_workOut 53 rfl) (by decide) (fun z => ?_) (fun z => ?_)
    · replace h := h.1 z
      refine xJ.iconst (v := 0) (o_Checker_workOut 56 rfl) (by decide) ?_
      exact xJ.lvs (by exact trivial) (sw_Checker_workOut_270 h)
    · replace h := h.2 z
      refine xJ.iconst (v := 1) (o_Checker_workOut 54 rfl) (by decide) ?_
      refine xJ.goto (tgt := 270) (o_Checker_workOut 55 rfl) (by decide) ?_
      exact xJ.lvs (by exact trivial) (sw_Checker_workOut_270 h)
  · replace h := h.2.2.2.2.1 z
    refine xJ.aload_n (o_Checker_workOut 59 rfl) rfl ?_
    refine xJ.iload_n (o_Checker_workOut 60 rfl) rfl ?_
    refine xJ.callV (Y' := Y_Checker_workOutXor) (o_Checker_workOut 61 rfl) m_Checker_87 y_Checker_workOutXor im_Checker_workOutXor se_Checker_workOutXor rfl rfl (s_Checker_workOutXor h) rfl rfl (Nat.le_of_ble_eq_true rfl) (fun _ hx => by cases hx) (fun v u q => ?_) (fun n u q => q)
    obtain ⟨rfl, h⟩ := xqv_get q
    refine xJ.goto (tgt := 556) (o_Checker_workOut 62 rfl) (by decide) ?_
    exact xJ.return_ (o_Checker_workOut 217 rfl) rfl h
  · replace h := h.2.2.2.2.2.1 z
    refine xJ.aload_n (o_Checker_workOut 63 rfl) rfl ?_
    refine xJ.iload_n (o_Checker_workOut 64 rfl) rfl ?_
    refine xJ.aload_n (o_Checker_workOut 65 rfl) rfl ?_
    refine xJ.getfield (o_Checker_workOut 66 rfl) f_Checker_32 rfl rfl ?_
    refine xJ.getfield (o_Checker_workOut 67 rfl) f_Checker_74 rfl rfl ?_
    refine xJ.iload_n (o_Checker_workOut 68 rfl) rfl ?_
    refine xJ.iaload (o_Checker_workOut 69 rfl) rfl h.1 ?_
    replace h := h.2
    refine xJ.aload_n (o_Checker_workOut 70 rfl) rfl ?_
    refine xJ.getfield (o_Checker_workOut 71 rfl) f_Checker_32 rfl rfl ?_
    refine xJ.getfield (o_Checker_workOut 72 rfl) f_Checker_74 rfl rfl ?_
    refine xJ.iload_n (o_Checker_workOut 73 rfl) rfl ?_
    refine xJ.iconst (v := 1) (o_Checker_workOut 74 rfl) (by decide) ?_
    refine xJ.iadd (o_Checker_workOut 75 rfl) ?_
    refine xJ.iaload (o_Checker_workOut 76 rfl) rfl h.1 ?_
    replace h := h.2
    refine xJ.aload_n (o_Checker_workOut 77 rfl) rfl ?_
    refine xJ.getfield (o_Checker_workOut 78 rfl) f_Checker_32 rfl rfl ?_
    refine xJ.getfield (o_Checker_workOut 79 rfl) f_Checker_74 rfl rfl ?_
    refine xJ.iload_n (o_Checker_workOut 80 rfl) rfl ?_
    refine xJ.iconst (v := 2) (o_Checker_workOut 81 rfl) (by decide) ?_
    refine xJ.iadd (o_Checker_workOut 82 rfl) ?_
    refine xJ.iaload (o_Checker_workOut 83 rfl) rfl h.1 ?_
    replace h := h.2
    refine xJ.callV (Y' := Y_Checker_workOutIte) (o_Checker_workOut 84 rfl) m_Checker_90 y_Checker_workOutIte im_Checker_workOutIte se_Checker_workOutIte rfl rfl (s_Checker_workOutIte h) rfl rfl (Nat.le_of_ble_eq_true rfl) (fun _ hx => by cases hx) (fun v u q => ?_) (fun n u q => q)
    obtain ⟨rfl, h⟩ := xqv_get q
    refine xJ.goto (tgt := 556) (o_Checker_workOut 85 rfl) (by decide) ?_
    exact xJ.return_ (o_Checker_workOut 217 rfl) rfl h
  · replace h := h.2.2.2.2.2.2.1 z
    refine xJ.aload_n (o_Checker_workOut 86 rfl) rfl ?_
    refine xJ.iload_n (o_Checker_workOut 87 rfl) rfl ?_
    refine xJ.callV (Y' := Y_Checker_workOutEqual) (o_Checker_workOut 88 rfl) m_Checker_94 y_Checker_workOutEqual im_Checker_workOutEqual se_Checker_workOutEqual rfl rfl (s_Checker_workOutEqual h) rfl rfl (Nat.le_of_ble_eq_true rfl) (fun _ hx => by cases hx) (fun v u q => ?_) (fun n u q => q)
    obtain ⟨rfl, h⟩ := xqv_get q
    refine xJ.goto (tgt := 556) (o_Checker_workOut 89 rfl) (by decide) ?_
    exact xJ.return_ (o_Checker_workOut 217 rfl) rfl h
  · replace h := h.2.2.2.2.2.2.2.1 z
    refine xJ.aload_n (o_Checker_workOut 90 rfl) rfl ?_
    refine xJ.iload_n (o_Checker_workOut 91 rfl) rfl ?_
    refine xJ.callV (Y' := Y_Checker_workOutDistinct) (o_Checker_workOut 92 rfl) m_Checker_97 y_Checker_workOutDistinct im_Checker_workOutDistinct se_Checker_workOutDistinct rfl rfl (s_Checker_workOutDistinct h) rfl rfl (Nat.le_of_ble_eq_true rfl) (fun _ hx => by cases hx) (fun v u q => ?_) (fun n u q => q)
    obtain ⟨rfl, h⟩ := xqv_get q
    refine xJ.goto (tgt := 556) (o_Checker_workOut 93 rfl) (by decide) ?_
    exact xJ.return_ (o_Checker_workOut 217 rfl) rfl h
  · replace h := h.2.2.2.2.2.2.2.2.1 z
    refine xJ.aload_n (o_Checker_workOut 94 rfl) rfl ?_
    refine xJ.iload_n (o_Checker_workOut 95 rfl) rfl ?_
    refine xJ.callV (Y' := Y_Checker_workOutSum) (o_Checker_workOut 96 rfl) m_Checker_100 y_Checker_workOutSum im_Checker_workOutSum se_Checker_workOutSum rfl rfl (s_Checker_workOutSum h) rfl rfl (Nat.le_of_ble_eq_true rfl) (fun _ hx => by cases hx) (fun v u q => ?_) (fun n u q => q)
    obtain ⟨rfl, h⟩ := xqv_get q
    refine xJ.goto (tgt := 556) (o_Checker_workOut 97 rfl) (by decide) ?_
    exact xJ.return_ (o_Checker_workOut 217 rfl) rfl h
  · replace h := h.2.2.2.2.2.2.2.2.2.1 z
    refine xJ.aload_n (o_Checker_workOut 98 rfl) rfl ?_
    refine xJ.iload_n (o_Checker_workOut 99 rfl) rfl ?_
    refine xJ.callV (Y' := Y_Checker_workOutProduct) (o_Checker_workOut 100 rfl) m_Checker_103 y_Checker_workOutProduct im_Checker_workOutProduct se_Checker_workOutProduct rfl rfl (s_Checker_workOutProduct h) rfl rfl (Nat.le_of_ble_eq_true rfl) (fun _ hx => by cases hx) (fun v u q => ?_) (fun n u q => q)
    obtain ⟨rfl, h⟩ := xqv_get q
    refine xJ.goto (tgt := 556) (o_Checker_workOut 101 rfl) (by decide) ?_
    exact xJ.return_ (o_Checker_workOut 217 rfl) rfl h
  · replace h := h.2.2.2.2.2.2.2.2.2.2.1 z
    refine xJ.aload_n (o_Checker_workOut 115 rfl) rfl ?_
    refine xJ.iload_n (o_Checker_workOut 116 rfl) rfl ?_
    refine xJ.aload_n (o_Checker_workOut 117 rfl) rfl ?_
    refine xJ.getfield (o_Checker_workOut 118 rfl) f_Checker_32 rfl rfl ?_
    refine xJ.getfield (o_Checker_workOut 119 rfl) f_Checker_74 rfl rfl ?_
    refine xJ.iload_n (o_Checker_workOut 120 rfl) rfl ?_
    refine xJ.iaload (o_Checker_workOut 121 rfl) rfl h.1 ?_
    replace h := h.2
    refine xJ.aload_n (o_Checker_workOut 122 rfl) rfl ?_
    refine xJ.getfield (o_Checker_workOut 123 rfl) f_Checker_32 rfl rfl ?_
    refine xJ.getfield (o_Checker_workOut 124 rfl) f_Checker_74 rfl rfl ?_
    refine xJ.iload_n (o_Checker_workOut 125 rfl) rfl ?_
    refine xJ.iconst (v := 1) (o_Checker_workOut 126 rfl) (by decide) ?_
    refine xJ.iadd (o_Checker_workOut 127 rfl) ?_
    refine xJ.iaload (o_Checker_workOut 128 rfl) rfl h.1 ?_
    replace h := h.2
    refine xJ.callV (Y' := Y_Checker_workOutDifference) (o_Checker_workOut 129 rfl) m_Checker_112 y_Checker_workOutDifference im_Checker_workOutDifference se_Checker_workOutDifference rfl rfl (s_Checker_workOutDifference h) rfl rfl (Nat.le_of_ble_eq_true rfl) (fun _ hx => by cases hx) (fun v u q => ?_) (fun n u q => q)
    obtain ⟨rfl, h⟩ := xqv_get q
    refine xJ.goto (tgt := 556) (o_Checker_workOut 130 rfl) (by decide) ?_
    exact xJ.return_ (o_Checker_workOut 217 rfl) rfl h
  · replace h := h.2.2.2.2.2.2.2.2.2.2.2.1 z
    refine xJ.aload_n (o_Checker_workOut 131 rfl) rfl ?_
    refine xJ.iload_n (o_Checker_workOut 132 rfl) rfl ?_
    refine xJ.aload_n (o_Checker_workOut 133 rfl) rfl ?_
    refine xJ.getfield (o_Checker_workOut 134 rfl) f_Checker_32 rfl rfl ?_
    refine xJ.getfield (o_Checker_workOut 135 rfl) f_Checker_74 rfl rfl ?_
    refine xJ.iload_n (o_Checker_workOut 136 rfl) rfl ?_
    refine xJ.iaload (o_Checker_workOut 137 rfl) rfl h.1 ?_
    replace h := h.2
    refine xJ.aload_n (o_Checker_workOut 138 rfl) rfl ?_
    refine xJ.getfield (o_Checker_workOut 139 rfl) f_Checker_32 rfl rfl ?_
    refine xJ.getfield (o_Checker_workOut 140 rfl) f_Checker_74 rfl rfl ?_
    refine xJ.iload_n (o_Checker_workOut 141 rfl) rfl ?_
    refine xJ.iconst (v := 1) (o_Checker_workOut 142 rfl) (by decide) ?_
    refine xJ.iadd (o_Checker_workOut 143 rfl) ?_
    refine xJ.iaload (o_Checker_workOut 144 rfl) rfl h.1 ?_
    replace h := h.2
    refine xJ.callV (Y' := Y_Checker_workOutDivision) (o_Checker_workOut 145 rfl) m_Checker_116 y_Checker_workOutDivision im_Checker_workOutDivision se_Checker_workOutDivision rfl rfl (s_Checker_workOutDivision h) rfl rfl (Nat.le_of_ble_eq_true rfl) (fun _ hx => by cases hx) (fun v u q => ?_) (fun n u q => q)
    obtain ⟨rfl, h⟩ := xqv_get q
    refine xJ.goto (tgt := 556) (o_Checker_workOut 146 rfl) (by decide) ?_
    exact xJ.return_ (o_Checker_workOut 217 rfl) rfl h
  · replace h := h.2.2.2.2.2.2.2.2.2.2.2.2.1 z
    refine xJ.aload_n (o_Checker_workOut 147 rfl) rfl ?_
    refine xJ.iload_n (o_Checker_workOut 148 rfl) rfl ?_
    refine xJ.aload_n (o_Checker_workOut 149 rfl) rfl ?_
    refine xJ.getfield (o_Checker_workOut 150 rfl) f_Checker_32 rfl rfl ?_
    refine xJ.getfield (o_Checker_workOut 151 rfl) f_Checker_74 rfl rfl ?_
    refine xJ.iload_n (o_Checker_workOut 152 rfl) rfl ?_
    refine xJ.iaload (o_Checker_workOut 153 rfl) rfl h.1 ?_
    replace h := h.2
    refine xJ.aload_n (o_Checker_workOut 154 rfl) rfl ?_
    refine xJ.getfield (o_Checker_workOut 155 rfl) f_Checker_32 rfl rfl ?_
    refine xJ.getfield (o_Checker_workOut 156 rfl) f_Checker_74 rfl rfl ?_
    refine xJ.iload_n (o_Checker_workOut 157 rfl) rfl ?_
    refine xJ.iconst (v := 1) (o_Checker_workOut 158 rfl) (by decide) ?_
    refine xJ.iadd (o_Checker_workOut 159 rfl) ?_
    refine xJ.iaload (o_Checker_workOut 160 rfl) rfl h.1 ?_
    replace h := h.2
    refine xJ.callV (Y' := Y_Checker_workOutShift) (o_Checker_workOut 161 rfl) m_Checker_119 y_Checker_workOutShift im_Checker_workOutShift se_Checker_workOutShift rfl rfl (s_Checker_workOutShift h) rfl rfl (Nat.le_of_ble_eq_true rfl) (fun _ hx => by cases hx) (fun v u q => ?_) (fun n u q => q)
    obtain ⟨rfl, h⟩ := xqv_get q
    refine xJ.goto (tgt := 556) (o_Checker_workOut 162 rfl) (by decide) ?_
    exact xJ.return_ (o_Checker_workOut 217 rfl) rfl h
  · replace h := h.2.2.2.2.2.2.2.2.2.2.2.2.2.1 z
    refine xJ.aload_n (o_Checker_workOut 102 rfl) rfl ?_
    refine xJ.iload_n (o_Checker_workOut 103 rfl) rfl ?_
    refine xJ.callV (Y' := Y_Checker_workOutConcat) (o_Checker_workOut 104 rfl) m_Checker_106 y_Checker_workOutConcat im_Checker_workOutConcat se_Checker_workOutConcat rfl rfl (s_Checker_workOutConcat h) rfl rfl (Nat.le_of_ble_eq_true rfl) (fun _ hx => by cases hx) (fun v u q => ?_) (fun n u q => q)
    obtain ⟨rfl, h⟩ := xqv_get q
    refine xJ.goto (tgt := 556) (o_Checker_workOut 105 rfl) (by decide) ?_
    exact xJ.return_ (o_Checker_workOut 217 rfl) rfl h
  · replace h := h.2.2.2.2.2.2.2.2.2.2.2.2.2.2.1 z
    refine xJ.aload_n (o_Checker_workOut 163 rfl) rfl ?_
    refine xJ.iload_n (o_Checker_workOut 164 rfl) rfl ?_
    refine xJ.aload_n (o_Checker_workOut 165 rfl) rfl ?_
    refine xJ.getfield (o_Checker_workOut 166 rfl) f_Checker_32 rfl rfl ?_
    refine xJ.getfield (o_Checker_workOut 167 rfl) f_Checker_74 rfl rfl ?_
    refine xJ.iload_n (o_Checker_workOut 168 rfl) rfl ?_
    refine xJ.iaload (o_Checker_workOut 169 rfl) rfl h.1 ?_
    replace h := h.2
    refine xJ.aload_n (o_Checker_workOut 170 rfl) rfl ?_
    refine xJ.getfield (o_Checker_workOut 171 rfl) f_Checker_32 rfl rfl ?_
    refine xJ.getfield (o_Checker_workOut 172 rfl) f_Checker_74 rfl rfl ?_
    refine xJ.iload_n (o_Checker_workOut 173 rfl) rfl ?_
    refine xJ.iconst (v := 1) (o_Checker_workOut 174 rfl) (by decide) ?_
    refine xJ.iadd (o_Checker_workOut 175 rfl) ?_
    refine xJ.iaload (o_Checker_workOut 176 rfl) rfl h.1 ?_
    replace h := h.2
    refine xJ.callV (Y' := Y_Checker_workOutSelect) (o_Checker_workOut 177 rfl) m_Checker_122 y_Checker_workOutSelect im_Checker_workOutSelect se_Checker_workOutSelect rfl rfl (s_Checker_workOutSelect h) rfl rfl (Nat.le_of_ble_eq_true rfl) (fun _ hx => by cases hx) (fun v u q => ?_) (fun n u q => q)
    obtain ⟨rfl, h⟩ := xqv_get q
    refine xJ.goto (tgt := 556) (o_Checker_workOut 178 rfl) (by decide) ?_
    exact xJ.return_ (o_Checker_workOut 217 rfl) rfl h
  · replace h := h.2.2.2.2.2.2.2.2.2.2.2.2.2.2.2.1 z
    refine xJ.aload_n (o_Checker_workOut 179 rfl) rfl ?_
    refine xJ.iload_n (o_Checker_workOut 180 rfl) rfl ?_
    refine xJ.aload_n (o_Checker_workOut 181 rfl) rfl ?_
    refine xJ.getfield (o_Checker_workOut 182 rfl) f_Checker_32 rfl rfl ?_
    refine xJ.getfield (o_Checker_workOut 183 rfl) f_Checker_74 rfl rfl ?_
    refine xJ.iload_n (o_Checker_workOut 184 rfl) rfl ?_
    refine xJ.iaload (o_Checker_workOut 185 rfl) rfl h.1 ?_
    replace h := h.2
    refine xJ.aload_n (o_Checker_workOut 186 rfl) rfl ?_
    refine xJ.getfield (o_Checker_workOut 187 rfl) f_Checker_32 rfl rfl ?_
    refine xJ.getfield (o_Checker_workOut 188 rfl) f_Checker_74 rfl rfl ?_
    refine xJ.iload_n (o_Checker_workOut 189 rfl) rfl ?_
    refine xJ.iconst (v := 1) (o_Checker_workOut 190 rfl) (by decide) ?_
    refine xJ.iadd (o_Checker_workOut 191 rfl) ?_
    refine xJ.iaload (o_Checker_workOut 192 rfl) rfl h.1 ?_
    replace h := h.2
    refine xJ.aload_n (o_Checker_workOut 193 rfl) rfl ?_
    refine xJ.getfield (o_Checker_workOut 194 rfl) f_Checker_32 rfl rfl ?_
    refine xJ.getfield (o_Checker_workOut 195 rfl) f_Checker_74 rfl rfl ?_
    refine xJ.iload_n (o_Checker_workOut 196 rfl) rfl ?_
    refine xJ.iconst (v := 2) (o_Checker_workOut 197 rfl) (by decide) ?_
    refine xJ.iadd (o_Checker_workOut 198 rfl) ?_
    refine xJ.iaload (o_Checker_workOut 199 rfl) rfl h.1 ?_
    replace h := h.2
    refine xJ.callV (Y' := Y_Checker_workOutStore) (o_Checker_workOut 200 rfl) m_Checker_125 y_Checker_workOutStore im_Checker_workOutStore se_Checker_workOutStore rfl rfl (s_Checker_workOutStore h) rfl rfl (Nat.le_of_ble_eq_true rfl) (fun _ hx => by cases hx) (fun v u q => ?_) (fun n u q => q)
    obtain ⟨rfl, h⟩ := xqv_get q
    refine xJ.goto (tgt := 556) (o_Checker_workOut 201 rfl) (by decide) ?_
    exact xJ.return_ (o_Checker_workOut 217 rfl) rfl h
  · replace h := h.2.2.2.2.2.2.2.2.2.2.2.2.2.2.2.2.1 z
    refine xJ.goto (tgt := 556) (o_Checker_workOut 8 rfl) (by decide) ?_
    exact xJ.return_ (o_Checker_workOut 217 rfl) rfl h
  · replace h := h.2.2.2.2.2.2.2.2.2.2.2.2.2.2.2.2.2.1 z
    refine xJ.aload_n (o_Checker_workOut 9 rfl) rfl ?_
    refine xJ.iload_n (o_Checker_workOut 10 rfl) rfl ?_
    refine xJ.aload_n (o_Checker_workOut 11 rfl) rfl ?_
    refine xJ.getfield (o_Checker_workOut 12 rfl) f_Checker_32 rfl rfl ?_
    refine xJ.getfield (o_Checker_workOut 13 rfl) f_Checker_45 rfl rfl ?_
    refine xJ.iload_n (o_Checker_workOut 14 rfl) rfl ?_
    refine xJ.laload (o_Checker_workOut 15 rfl) rfl h.1 ?_
    replace h := h.2
    refine xJ.aload_n (o_Checker_workOut 16 rfl) rfl ?_
    refine xJ.getfield (o_Checker_workOut 17 rfl) f_Checker_32 rfl rfl ?_
    refine xJ.getfield (o_Checker_workOut 18 rfl) f_Checker_71 rfl rfl ?_
    refine xJ.iload_n (o_Checker_workOut 19 rfl) rfl ?_
    refine xJ.laload (o_Checker_workOut 20 rfl) rfl h.1 ?_
    replace h := h.2
    refine xJ.callV (Y' := Y_Checker_learn) (o_Checker_workOut 21 rfl) m_Checker_50 y_Checker_learn im_Checker_learn se_Checker_learn rfl rfl (s_Checker_learn h) rfl rfl (Nat.le_of_ble_eq_true rfl) (fun _ hx => by cases hx) (fun v u q => ?_) (fun n u q => q)
    obtain ⟨rfl, h⟩ := xqv_get q
    refine xJ.goto (tgt := 556) (o_Checker_workOut 22 rfl) (by decide) ?_
    exact xJ.return_ (o_Checker_workOut 217 rfl) rfl h
  · replace h := h.2.2.2.2.2.2.2.2.2.2.2.2.2.2.2.2.2.2 z
    refine xJ.aload_n (o_Checker_workOut 202 rfl) rfl ?_
    refine xJ.iload_n (o_Checker_workOut 203 rfl) rfl ?_
    refine xJ.aload_n (o_Checker_workOut 204 rfl) rfl ?_
    refine xJ.getfield (o_Checker_workOut 205 rfl) f_Checker_32 rfl rfl ?_
    refine xJ.getfield (o_Checker_workOut 206 rfl) f_Checker_74 rfl rfl ?_
    refine xJ.iload_n (o_Checker_workOut 207 rfl) rfl ?_
    refine xJ.iaload (o_Checker_workOut 208 rfl) rfl h.1 ?_
    replace h := h.2
    refine xJ.aload_n (o_Checker_workOut 209 rfl) rfl ?_
    refine xJ.getfield (o_Checker_workOut 210 rfl) f_Checker_32 rfl rfl ?_
    refine xJ.getfield (o_Checker_workOut 211 rfl) f_Checker_74 rfl rfl ?_
    refine xJ.iload_n (o_Checker_workOut 212 rfl) rfl ?_
    refine xJ.iconst (v := 1) (o_Checker_workOut 213 rfl) (by decide) ?_
    refine xJ.iadd (o_Checker_workOut 214 rfl) ?_
    refine xJ.iaload (o_Checker_workOut 215 rfl) rfl h.1 ?_
    replace h := h.2
    refine xJ.callV (Y' := Y_Checker_workOutComparison) (o_Checker_workOut 216 rfl) m_Checker_128 y_Checker_workOutComparison im_Checker_workOutComparison se_Checker_workOutComparison rfl rfl (s_Checker_workOutComparison h) rfl rfl (Nat.le_of_ble_eq_true rfl) (fun _ hx => by cases hx) (fun v u q => ?_) (fun n u q => q)
    obtain ⟨rfl, h⟩ := xqv_get q
    exact xJ.return_ (o_Checker_workOut 217 rfl) rfl h
def w_Terms_markArguments_6_47_7 (Q : xO → xS → Prop) : Nat → Int32 → Int32 → xS → Prop
  | 0 => fun _ _ _ => False
  | n + 1 => fun a1 a3 σ =>
    (vp_in (a1 + 1) 2001 ∧ (((xi σ 9 (a1 + 1).toNatClampNeg) ≤ a3 → Q (.inl none) σ) ∧ (¬ (xi σ 9 (a1 + 1).toNatClampNeg) ≤ a3 → (vp_in a3 80000 ∧ (vp_in (xi σ 10 a3.toNatClampNeg) 2000 ∧ (((xi σ 7 (xi σ 10 a3.toNatClampNeg).toNatClampNeg) = 47 → (∀ x2 : Int32, x2 = a3 + 1 → w_Terms_markArguments_6_47_7 Q n a1 x2 σ)) ∧ (¬ (xi σ 7 (xi σ 10 a3.toNatClampNeg).toNatClampNeg) = 47 → (vp_in a3 80000 ∧ (vp_in (xi σ 10 a3.toNatClampNeg) 2000 ∧ (∀ s3 : xS, s3 = xpi σ 47 (xi σ 10 a3.toNatClampNeg).toNatClampNeg (vp_nar .byte 1) → (∀ x4 : Int32, x4 = a3 + 1 → w_Terms_markArguments_6_47_7 Q n a1 x4 s3)))))))))))
def wp_Terms_markArguments_6_47 (Q : xO → xS → Prop) (σ : xS) (a1 : Int32) : Prop :=
  (vp_in a1 2001 ∧ (∀ x1 : Int32, x1 = (xi σ 9 a1.toNatClampNeg) → ∃ m, w_Terms_markArguments_6_47_7 Q m a1 x1 σ))
set_option maxRecDepth 20000 in
theorem sw_Terms_markArguments_6_47_7 {γ : xG1} {d b0 : Nat} {Q : xO → xS → Prop} : ∀ (n : Nat) (a1 : Int32) (a3 : Int32) (σ : xS), w_Terms_markArguments_6_47_7 Q n a1 a3 σ → xJ (SHP, γ) Y_Terms_markArguments (d + 0) b0 7 [(0, .ref 6), (1, .int a1), (2, .ref 47), (3, .int a3)] [] σ Q := by
  intro n
  induction n with
  | zero => intro a1 a3 σ h; exact h.elim
  | succ n ih =>
    intro a1 a3 σ h
    refine xJ.iload_n (o_Terms_markArguments 5 rfl) rfl ?_
    refine xJ.aload_n (o_Terms_markArguments 6 rfl) rfl ?_
    refine xJ.getfield (o_Terms_markArguments 7 rfl) f_Terms_18 rfl rfl ?_
    refine xJ.iload_n (o_Terms_markArguments 8 rfl) rfl ?_
    refine xJ.iconst (v := 1) (o_Terms_markArguments 9 rfl) (by decide) ?_
    refine xJ.iadd (o_Terms_markArguments 10 rfl) ?_
    refine xJ.iaload (o_Terms_markArguments 11 rfl) rfl h.1 ?_
    replace h := h.2
    refine xJ.icmp_ge (tgt := 50) (o_Terms_markArguments 12 rfl) (by decide) (fun z => ?_) (fun z => ?_)
    · replace h := h.1 z
      exact xJ.return_ (o_Terms_markArguments 31 rfl) rfl h
    · replace h := h.2 z
      refine xJ.aload_n (o_Terms_markArguments 13 rfl) rfl ?_
      refine xJ.getfield (o_Terms_markArguments 14 rfl) f_Terms_9 rfl rfl ?_
      refine xJ.aload_n (o_Terms_markArguments 15 rfl) rfl ?_
      refine xJ.getfield (o_Terms_markArguments 16 rfl) f_Terms_22 rfl rfl ?_
      refine xJ.iload_n (o_Terms_markArguments 17 rfl) rfl ?_
      refine xJ.iaload (o_Terms_markArguments 18 rfl) rfl h.1 ?_
      replace h := h.2
      refine xJ.iaload (o_Terms_markArguments 19 rfl) rfl h.1 ?_
      replace h := h.2
      refine xJ.bipush (v := 47) (o_Terms_markArguments 20 rfl) (by decide) ?_
      refine xJ.icmp_eq (tgt := 44) (o_Terms_markArguments 21 rfl) (by decide) (fun z => ?_) (fun z => ?_)
      · replace h := h.1 z
        refine xJ.iincC (w := 1) (o_Terms_markArguments 29 rfl) rfl (by decide) (by decide) ?_
        replace h := h _ rfl
        refine xJ.goto (tgt := 7) (o_Terms_markArguments 30 rfl) (by decide) ?_
        exact xJ.lvs (by exact ⟨rfl, rfl, rfl, rfl, trivial⟩) (ih _ _ _ h)
      · replace h := h.2 z
        refine xJ.aload_n (o_Terms_markArguments 22 rfl) rfl ?_
        refine xJ.aload_n (o_Terms_markArguments 23 rfl) rfl ?_
        refine xJ.getfield (o_Terms_markArguments 24 rfl) f_Terms_22 rfl rfl ?_
        refine xJ.iload_n (o_Terms_markArguments 25 rfl) rfl ?_
        refine xJ.iaload (o_Terms_markArguments 26 rfl) rfl h.1 ?_
        replace h := h.2
        refine xJ.iconst (v := 1) (o_Terms_markArguments 27 rfl) (by decide) ?_
        refine xJ.bastore (o_Terms_markArguments 28 rfl) rfl h.1 ?_
        replace h := h.2
        replace h := h _ rfl
        refine xJ.iincC (w := 1) (o_Terms_markArguments 29 rfl) rfl (by decide) (by decide) ?_
        replace h := h _ rfl
        refine xJ.goto (tgt := 7) (o_Terms_markArguments 30 rfl) (by decide) ?_
        exact xJ.lvs (by exact ⟨rfl, rfl, rfl, rfl, trivial⟩) (ih _ _ _ h)
set_option maxRecDepth 20000 in
theorem s_Terms_markArguments_6_47 {γ : xG1} {d : Nat} {Q : xO → xS → Prop} {σ : xS} {a1 : Int32} (h : wp_Terms_markArguments_6_47 Q σ a1) : xM (SHP, γ) Y_Terms_markArguments (d + 0) [.ref 6, .int a1, .ref 47] σ Q := by
  refine xM.of (by decide) (Nat.le_of_ble_eq_true rfl) ?_
  refine xJ.aload_n (o_Terms_markArguments 0 rfl) rfl ?_
  refine xJ.getfield (o_Terms_markArguments 1 rfl) f_Terms_18 rfl rfl ?_
  refine xJ.iload_n (o_Terms_markArguments 2 rfl) rfl ?_
  refine xJ.iaload (o_Terms_markArguments 3 rfl) rfl h.1 ?_
  replace h := h.2
  refine xJ.istore_n (o_Terms_markArguments 4 rfl) (by decide) ?_
  replace h := h _ rfl
  obtain ⟨m, h⟩ := h
  exact xJ.lvs (by exact ⟨rfl, rfl, rfl, rfl, trivial⟩) (sw_Terms_markArguments_6_47_7 m _ _ _ h)
def w_Terms_markCone_6_47_6 (Q : xO → xS → Prop) : Nat → Int32 → Int32 → xS → Prop
  | 0 => fun _ _ _ => False
  | n + 1 => fun a1 a3 σ =>
    (vp_in a1 2000 ∧ ((a3 < (xi σ 14 a1.toNatClampNeg) → Q (.inl none) σ) ∧ (¬ a3 < (xi σ 14 a1.toNatClampNeg) → (vp_in a3 2000 ∧ (((xi σ 47 a3.toNatClampNeg) = 0 → (∀ x2 : Int32, x2 = a3 + (-1) → w_Terms_markCone_6_47_6 Q n a1 x2 σ)) ∧ (¬ (xi σ 47 a3.toNatClampNeg) = 0 → wp_Terms_markArguments_6_47 (xqv (fun u3 => (∀ x5 : Int32, x5 = a3 + (-1) → w_Terms_markCone_6_47_6 Q n a1 x5 u3)) (fun n u => Q (.inr n) u)) σ a3))))))
def wp_Terms_markCone_6_47 (Q : xO → xS → Prop) (σ : xS) (a1 : Int32) : Prop :=
  (vp_in a1 2000 ∧ (∀ s1 : xS, s1 = xpi σ 47 a1.toNatClampNeg (vp_nar .byte 1) → ∃ m, w_Terms_markCone_6_47_6 Q m a1 a1 s1))
set_option maxRecDepth 20000 in
theorem sw_Terms_markCone_6_47_6 {γ : xG1} {d b0 : Nat} {Q : xO → xS → Prop} : ∀ (n : Nat) (a1 : Int32) (a3 : Int32) (σ : xS), w_Terms_markCone_6_47_6 Q n a1 a3 σ → xJ (SHP, γ) Y_Terms_markCone (d + 1) b0 6 [(0, .ref 6), (1, .int a1), (2, .ref 47), (3, .int a3)] [] σ Q := by
  intro n
  induction n with
  | zero => intro a1 a3 σ h; exact h.elim
  | succ n ih =>
    intro a1 a3 σ h
    refine xJ.iload_n (o_Terms_markCone 6 rfl) rfl ?_
    refine xJ.aload_n (o_Terms_markCone 7 rfl) rfl ?_
    refine xJ.getfield (o_Terms_markCone 8 rfl) f_Terms_35 rfl rfl ?_
    refine xJ.iload_n (o_Terms_markCone 9 rfl) rfl ?_
    refine xJ.iaload (o_Terms_markCone 10 rfl) rfl h.1 ?_
    replace h := h.2
    refine xJ.icmp_lt (tgt := 34) (o_Terms_markCone 11 rfl) (by decide) (fun z => ?_) (fun z => ?_)
    · replace h := h.1 z
      exact xJ.return_ (o_Terms_markCone 22 rfl) rfl h
    · replace h := h.2 z
      refine xJ.aload_n (o_Terms_markCone 12 rfl) rfl ?_
      refine xJ.iload_n (o_Terms_markCone 13 rfl) rfl ?_
      refine xJ.baload (o_Terms_markCone 14 rfl) rfl h.1 ?_
      replace h := h.2
      refine xJ.if_eq (tgt := 28) (o_Terms_markCone 15 rfl) (by decide) (fun z => ?_) (fun z => ?_)
      · replace h := h.1 z
        refine xJ.iincC (w := (-1)) (o_Terms_markCone 20 rfl) rfl (by decide) (by decide) ?_
        replace h := h _ rfl
        refine xJ.goto (tgt := 6) (o_Terms_markCone 21 rfl) (by decide) ?_
        exact xJ.lvs (by exact ⟨rfl, rfl, rfl, rfl, trivial⟩) (ih _ _ _ h)
      · replace h := h.2 z
        refine xJ.aload_n (o_Terms_markCone 16 rfl) rfl ?_
        refine xJ.iload_n (o_Terms_markCone 17 rfl) rfl ?_
        refine xJ.aload_n (o_Terms_markCone 18 rfl) rfl ?_
        refine xJ.callV (Y' := Y_Terms_markArguments) (o_Terms_markCone 19 rfl) m_Terms_62 y_Terms_markArguments im_Terms_markArguments se_Terms_markArguments rfl rfl (s_Terms_markArguments_6_47 h) rfl rfl (Nat.le_of_ble_eq_true rfl) (fun _ hx => by cases hx) (fun v u q => ?_) (fun n u q => q)
        obtain ⟨rfl, h⟩ := xqv_get q
        refine xJ.iincC (w := (-1)) (o_Terms_markCone 20 rfl) rfl (by decide) (by decide) ?_
        replace h := h _ rfl
        refine xJ.goto (tgt := 6) (o_Terms_markCone 21 rfl) (by decide) ?_
        exact xJ.lvs (by exact ⟨rfl, rfl, rfl, rfl, trivial⟩) (ih _ _ _ h)
set_option maxRecDepth 20000 in
theorem s_Terms_markCone_6_47 {γ : xG1} {d : Nat} {Q : xO → xS → Prop} {σ : xS} {a1 : Int32} (h : wp_Terms_markCone_6_47 Q σ a1) : xM (SHP, γ) Y_Terms_markCone (d + 1) [.ref 6, .int a1, .ref 47] σ Q := by
  refine xM.of (by decide) (Nat.le_of_ble_eq_true rfl) ?_
  refine xJ.aload_n (o_Terms_markCone 0 rfl) rfl ?_
  refine xJ.iload_n (o_Terms_markCone 1 rfl) rfl ?_
  refine xJ.iconst (v := 1) (o_Terms_markCone 2 rfl) (by decide) ?_
  refine xJ.bastore (o_Terms_markCone 3 rfl) rfl h.1 ?_
  replace h := h.2
  replace h := h _ rfl
  refine xJ.iload_n (o_Terms_markCone 4 rfl) rfl ?_
  refine xJ.istore_n (o_Terms_markCone 5 rfl) (by decide) ?_
  obtain ⟨m, h⟩ := h
  exact xJ.lvs (by exact ⟨rfl, rfl, rfl, rfl, trivial⟩) (sw_Terms_markCone_6_47_6 m _ _ _ h)
def w_Checker_followsFalse_96 (Q : xO → xS → Prop) : Nat → Int32 → Int32 → xS → Prop
  | 0 => fun _ _ _ => False
  | n + 1 => fun a1 a5 σ =>
    ((a1 < a5 → (vp_in a1 2000 ∧ (((lg_cmp (xl σ 45 a1.toNatClampNeg) 0) = 0 → Q (.inl (some (.int 0))) σ) ∧ (¬ (lg_cmp (xl σ 45 a1.toNatClampNeg) 0) = 0 → (vp_in a1 2000 ∧ ((¬ (lg_cmp (xl σ 46 a1.toNatClampNeg) 0) = 0 → Q (.inl (some (.int 0))) σ) ∧ ((lg_cmp (xl σ 46 a1.toNatClampNeg) 0) = 0 → Q (.inl (some (.int 1))) σ))))))) ∧ (¬ a1 < a5 → (vp_in a5 2000 ∧ (((xi σ 47 a5.toNatClampNeg) = 0 → (∀ x4 : Int32, x4 = a5 + 1 → w_Checker_followsFalse_96 Q n a1 x4 σ)) ∧ (¬ (xi σ 47 a5.toNatClampNeg) = 0 → (vp_in a5 2000 ∧ (∀ s5 : xS, s5 = xpi σ 47 a5.toNatClampNeg (vp_nar .byte 0) → (vp_in a5 2001 ∧ wp_Checker_workOut (xqv (fun u6 => (∀ x8 : Int32, x8 = a5 + 1 → w_Checker_followsFalse_96 Q n a1 x8 u6)) (fun n u => Q (.inr n) u)) s5 a5 (xi s5 9 a5.toNatClampNeg)))))))))
def w_Checker_followsFalse_3 (Q : xO → xS → Prop) : Nat → Int32 → Int32 → Int32 → Int32 → Int32 → xS → Prop
  | 0 => fun _ _ _ _ _ _ => False
  | n + 1 => fun a1 a2 a3 a4 a5 σ =>
    (((xi σ 5 8) ≤ a5 → wp_Terms_markCone_6_47 (xqv (fun u1 => (vp_in a1 2000 ∧ (∀ x3 : Int32, x3 = (xi u1 14 a1.toNatClampNeg) → ∃ m, w_Checker_followsFalse_96 Q m a1 x3 u1))) (fun n u => Q (.inr n) u)) σ a1) ∧ (¬ (xi σ 5 8) ≤ a5 → (vp_in a5 500 ∧ (∀ x9 : Int32, x9 = (xi σ 19 a5.toNatClampNeg) → wp_Book_shift (xqi (fun r11 u10 => (vp_in x9 2000 ∧ wp_Checker_learn (xqv (fun u12 => (∀ x14 : Int32, x14 = a5 + 1 → w_Checker_followsFalse_3 Q n a1 a2 a3 a4 x14 u12)) (fun n u => Q (.inr n) u)) u10 x9 (((jiushr a2 r11).toInt64) &&& (xl u10 13 x9.toNatClampNeg)) ((jiushr a3 r11).toInt64))) (fun n u => Q (.inr n) u)) σ a5 a4))))
def wp_Checker_followsFalse (Q : xO → xS → Prop) (σ : xS) (a1 : Int32) (a2 : Int32) (a3 : Int32) (a4 : Int32) : Prop :=
  ∃ m, w_Checker_followsFalse_3 Q m a1 a2 a3 a4 0 σ
set_option maxRecDepth 20000 in
theorem sw_Checker_followsFalse_96 {γ : xG1} {d b0 : Nat} {Q : xO → xS → Prop} : ∀ (n : Nat) (a1 : Int32) (a5 : Int32) (σ : xS), w_Checker_followsFalse_96 Q n a1 a5 σ → xJ (SHP, γ) Y_Checker_followsFalse (d + 4) b0 96 [(0, .ref 44), (1, .int a1), (5, .int a5)] [] σ Q := by
  intro n
  induction n with
  | zero => intro a1 a5 σ h; exact h.elim
  | succ n ih =>
    intro a1 a5 σ h
    refine xJ.iload (o_Checker_followsFalse 50 rfl) rfl ?_
    refine xJ.iload_n (o_Checker_followsFalse 51 rfl) rfl ?_
    refine xJ.icmp_gt (tgt := 142) (o_Checker_followsFalse 52 rfl) (by decide) (fun z => ?_) (fun z => ?_)
    · replace h := h.1 z
      refine xJ.aload_n (o_Checker_followsFalse 73 rfl) rfl ?_
      refine xJ.getfield (o_Checker_followsFalse 74 rfl) f_Checker_9 rfl rfl ?_
      refine xJ.iload_n (o_Checker_followsFalse 75 rfl) rfl ?_
      refine xJ.laload (o_Checker_followsFalse 76 rfl) rfl h.1 ?_
      replace h := h.2
      refine xJ.lconst (v := 0) (o_Checker_followsFalse 77 rfl) (by decide) ?_
      refine xJ.lcmp (o_Checker_followsFalse 78 rfl) ?_
      refine xJ.if_eq (tgt := 168) (o_Checker_followsFalse 79 rfl) (by decide) (fun z => ?_) (fun z => ?_)
      · replace h := h.1 z
        refine xJ.iconst (v := 0) (o_Checker_followsFalse 89 rfl) (by decide) ?_
        exact xJ.zreturn (o_Checker_followsFalse 90 rfl) rfl (Or.inl rfl) h
      · replace h := h.2 z
        refine xJ.aload_n (o_Checker_followsFalse 80 rfl) rfl ?_
        refine xJ.getfield (o_Checker_followsFalse 81 rfl) f_Checker_15 rfl rfl ?_
        refine xJ.iload_n (o_Checker_followsFalse 82 rfl) rfl ?_
        refine xJ.laload (o_Checker_followsFalse 83 rfl) rfl h.1 ?_
        replace h := h.2
        refine xJ.lconst (v := 0) (o_Checker_followsFalse 84 rfl) (by decide) ?_
        refine xJ.lcmp (o_Checker_followsFalse 85 rfl) ?_
        refine xJ.if_ne (tgt := 168) (o_Checker_followsFalse 86 rfl) (by decide) (fun z => ?_) (fun z => ?_)
        · replace h := h.1 z
          refine xJ.iconst (v := 0) (o_Checker_followsFalse 89 rfl) (by decide) ?_
          exact xJ.zreturn (o_Checker_followsFalse 90 rfl) rfl (Or.inl rfl) h
        · replace h := h.2 z
          refine xJ.iconst (v := 1) (o_Checker_followsFalse 87 rfl) (by decide) ?_
          refine xJ.goto (tgt := 169) (o_Checker_followsFalse 88 rfl) (by decide) ?_
          exact xJ.zreturn (o_Checker_followsFalse 90 rfl) rfl (Or.inr rfl) h
    · replace h := h.2 z
      refine xJ.aload_n (o_Checker_followsFalse 53 rfl) rfl ?_
      refine xJ.getfield (o_Checker_followsFalse 54 rfl) f_Checker_18 rfl rfl ?_
      refine xJ.iload (o_Checker_followsFalse 55 rfl) rfl ?_
      refine xJ.baload (o_Checker_followsFalse 56 rfl) rfl h.1 ?_
      replace h := h.2
      refine xJ.if_eq (tgt := 136) (o_Checker_followsFalse 57 rfl) (by decide) (fun z => ?_) (fun z => ?_)
      · replace h := h.1 z
        refine xJ.iincC (w := 1) (o_Checker_followsFalse 71 rfl) rfl (by decide) (by decide) ?_
        replace h := h _ rfl
        refine xJ.goto (tgt := 96) (o_Checker_followsFalse 72 rfl) (by decide) ?_
        exact xJ.lvs (by exact ⟨rfl, rfl, rfl, trivial⟩) (ih _ _ _ h)
      · replace h := h.2 z
        refine xJ.aload_n (o_Checker_followsFalse 58 rfl) rfl ?_
        refine xJ.getfield (o_Checker_followsFalse 59 rfl) f_Checker_18 rfl rfl ?_
        refine xJ.iload (o_Checker_followsFalse 60 rfl) rfl ?_
        refine xJ.iconst (v := 0) (o_Checker_followsFalse 61 rfl) (by decide) ?_
        refine xJ.bastore (o_Checker_followsFalse 62 rfl) rfl h.1 ?_
        replace h := h.2
        replace h := h _ rfl
        refine xJ.aload_n (o_Checker_followsFalse 63 rfl) rfl ?_
        refine xJ.iload (o_Checker_followsFalse 64 rfl) rfl ?_
        refine xJ.aload_n (o_Checker_followsFalse 65 rfl) rfl ?_
        refine xJ.getfield (o_Checker_followsFalse 66 rfl) f_Checker_32 rfl rfl ?_
        refine xJ.getfield (o_Checker_followsFalse 67 rfl) f_Checker_61 rfl rfl ?_
        refine xJ.iload (o_Checker_followsFalse 68 rfl) rfl ?_
        refine xJ.iaload (o_Checker_followsFalse 69 rfl) rfl h.1 ?_
        replace h := h.2
        refine xJ.callV (Y' := Y_Checker_workOut) (o_Checker_followsFalse 70 rfl) m_Checker_64 y_Checker_workOut im_Checker_workOut se_Checker_workOut rfl rfl (s_Checker_workOut h) rfl rfl (Nat.le_of_ble_eq_true rfl) (fun _ hx => by cases hx) (fun v u q => ?_) (fun n u q => q)
        obtain ⟨rfl, h⟩ := xqv_get q
        refine xJ.iincC (w := 1) (o_Checker_followsFalse 71 rfl) rfl (by decide) (by decide) ?_
        replace h := h _ rfl
        refine xJ.goto (tgt := 96) (o_Checker_followsFalse 72 rfl) (by decide) ?_
        exact xJ.lvs (by exact ⟨rfl, rfl, rfl, trivial⟩) (ih _ _ _ h)
set_option maxRecDepth 20000 in
theorem sw_Checker_followsFalse_3 {γ : xG1} {d b0 : Nat} {Q : xO → xS → Prop} : ∀ (n : Nat) (a1 : Int32) (a2 : Int32) (a3 : Int32) (a4 : Int32) (a5 : Int32) (σ : xS), w_Checker_followsFalse_3 Q n a1 a2 a3 a4 a5 σ → xJ (SHP, γ) Y_Checker_followsFalse (d + 4) b0 3 [(0, .ref 44), (1, .int a1), (2, .int a2), (3, .int a3), (4, .int a4), (5, .int a5)] [] σ Q := by
  intro n
  induction n with
  | zero => intro a1 a2 a3 a4 a5 σ h; exact h.elim
  | succ n ih =>
    intro a1 a2 a3 a4 a5 σ h
    refine xJ.iload (o_Checker_followsFalse 2 rfl) rfl ?_
    refine xJ.aload_n (o_Checker_followsFalse 3 rfl) rfl ?_
    refine xJ.getfield (o_Checker_followsFalse 4 rfl) f_Checker_22 rfl rfl ?_
    refine xJ.getfield (o_Checker_followsFalse 5 rfl) f_Checker_33 rfl rfl ?_
    refine xJ.icmp_ge (tgt := 73) (o_Checker_followsFalse 6 rfl) (by decide) (fun z => ?_) (fun z => ?_)
    · replace h := h.1 z
      refine xJ.aload_n (o_Checker_followsFalse 38 rfl) rfl ?_
      refine xJ.getfield (o_Checker_followsFalse 39 rfl) f_Checker_32 rfl rfl ?_
      refine xJ.iload_n (o_Checker_followsFalse 40 rfl) rfl ?_
      refine xJ.aload_n (o_Checker_followsFalse 41 rfl) rfl ?_
      refine xJ.getfield (o_Checker_followsFalse 42 rfl) f_Checker_18 rfl rfl ?_
      refine xJ.callV (Y' := Y_Terms_markCone) (o_Checker_followsFalse 43 rfl) m_Checker_54 y_Terms_markCone im_Terms_markCone se_Terms_markCone rfl rfl (s_Terms_markCone_6_47 h) rfl rfl (Nat.le_of_ble_eq_true rfl) (fun _ hx => by cases hx) (fun v u q => ?_) (fun n u q => q)
      obtain ⟨rfl, h⟩ := xqv_get q
      refine xJ.aload_n (o_Checker_followsFalse 44 rfl) rfl ?_
      refine xJ.getfield (o_Checker_followsFalse 45 rfl) f_Checker_32 rfl rfl ?_
      refine xJ.getfield (o_Checker_followsFalse 46 rfl) f_Checker_58 rfl rfl ?_
      refine xJ.iload_n (o_Checker_followsFalse 47 rfl) rfl ?_
      refine xJ.iaload (o_Checker_followsFalse 48 rfl) rfl h.1 ?_
      replace h := h.2
      refine xJ.istore (o_Checker_followsFalse 49 rfl) (by decide) ?_
      replace h := h _ rfl
      obtain ⟨m, h⟩ := h
      exact xJ.lvs (by exact ⟨rfl, rfl, rfl, trivial⟩) (sw_Checker_followsFalse_96 m _ _ _ h)
    · replace h := h.2 z
      refine xJ.aload_n (o_Checker_followsFalse 7 rfl) rfl ?_
      refine xJ.getfield (o_Checker_followsFalse 8 rfl) f_Checker_22 rfl rfl ?_
      refine xJ.getfield (o_Checker_followsFalse 9 rfl) f_Checker_37 rfl rfl ?_
      refine xJ.iload (o_Checker_followsFalse 10 rfl) rfl ?_
      refine xJ.iaload (o_Checker_followsFalse 11 rfl) rfl h.1 ?_
      replace h := h.2
      refine xJ.istore (o_Checker_followsFalse 12 rfl) (by decide) ?_
      replace h := h _ rfl
      refine xJ.aload_n (o_Checker_followsFalse 13 rfl) rfl ?_
      refine xJ.getfield (o_Checker_followsFalse 14 rfl) f_Checker_22 rfl rfl ?_
      refine xJ.iload (o_Checker_followsFalse 15 rfl) rfl ?_
      refine xJ.iload (o_Checker_followsFalse 16 rfl) rfl ?_
      refine xJ.callV (Y' := Y_Book_shift) (o_Checker_followsFalse 17 rfl) m_Checker_41 y_Book_shift im_Book_shift se_Book_shift rfl rfl (s_Book_shift h) rfl rfl (Nat.le_of_ble_eq_true rfl) (fun _ hx => by cases hx) (fun v u q => ?_) (fun n u q => q)
      obtain ⟨r, rfl, h⟩ := xqi_get q
      refine xJ.istore (o_Checker_followsFalse 18 rfl) (by decide) ?_
      refine xJ.aload_n (o_Checker_followsFalse 19 rfl) rfl ?_
      refine xJ.iload (o_Checker_followsFalse 20 rfl) rfl ?_
      refine xJ.iload_n (o_Checker_followsFalse 21 rfl) rfl ?_
      refine xJ.iload (o_Checker_followsFalse 22 rfl) rfl ?_
      refine xJ.iushr (o_Checker_followsFalse 23 rfl) rfl ?_
      refine xJ.i2l (o_Checker_followsFalse 24 rfl) rfl ?_
      refine xJ.aload_n (o_Checker_followsFalse 25 rfl) rfl ?_
      refine xJ.getfield (o_Checker_followsFalse 26 rfl) f_Checker_32 rfl rfl ?_
      refine xJ.getfield (o_Checker_followsFalse 27 rfl) f_Checker_45 rfl rfl ?_
      refine xJ.iload (o_Checker_followsFalse 28 rfl) rfl ?_
      refine xJ.laload (o_Checker_followsFalse 29 rfl) rfl h.1 ?_
      replace h := h.2
      refine xJ.land (o_Checker_followsFalse 30 rfl) ?_
      refine xJ.iload_n (o_Checker_followsFalse 31 rfl) rfl ?_
      refine xJ.iload (o_Checker_followsFalse 32 rfl) rfl ?_
      refine xJ.iushr (o_Checker_followsFalse 33 rfl) rfl ?_
      refine xJ.i2l (o_Checker_followsFalse 34 rfl) rfl ?_
      refine xJ.callV (Y' := Y_Checker_learn) (o_Checker_followsFalse 35 rfl) m_Checker_50 y_Checker_learn im_Checker_learn se_Checker_learn rfl rfl (s_Checker_learn h) rfl rfl (Nat.le_of_ble_eq_true rfl) (fun _ hx => by cases hx) (fun v u q => ?_) (fun n u q => q)
      obtain ⟨rfl, h⟩ := xqv_get q
      refine xJ.iincC (w := 1) (o_Checker_followsFalse 36 rfl) rfl (by decide) (by decide) ?_
      replace h := h _ rfl
      refine xJ.goto (tgt := 3) (o_Checker_followsFalse 37 rfl) (by decide) ?_
      exact xJ.lvs (by exact ⟨rfl, rfl, rfl, rfl, rfl, rfl, trivial⟩) (ih _ _ _ _ _ _ h)
set_option maxRecDepth 20000 in
theorem s_Checker_followsFalse {γ : xG1} {d : Nat} {Q : xO → xS → Prop} {σ : xS} {a1 : Int32} {a2 : Int32} {a3 : Int32} {a4 : Int32} (h : wp_Checker_followsFalse Q σ a1 a2 a3 a4) : xM (SHP, γ) Y_Checker_followsFalse (d + 4) [.ref 44, .int a1, .int a2, .int a3, .int a4] σ Q := by
  refine xM.of (by decide) (Nat.le_of_ble_eq_true rfl) ?_
  refine xJ.iconst (v := 0) (o_Checker_followsFalse 0 rfl) (by decide) ?_
  refine xJ.istore (o_Checker_followsFalse 1 rfl) (by decide) ?_
  obtain ⟨m, h⟩ := h
  exact xJ.lvs (by exact ⟨rfl, rfl, rfl, rfl, rfl, rfl, trivial⟩) (sw_Checker_followsFalse_3 m _ _ _ _ _ _ h)
def wp_Checker_followsBound (Q : xO → xS → Prop) (σ : xS) (a1 : Int32) (a2 : Int32) (a3 : Int32) (a4 : Int32) : Prop :=
  (∀ x1 : Int32, x1 = (((jishl 1 a4) - 1) &&& (a1 ^^^ (-1))) → ((a3 ≤ (a2 ||| x1) → Q (.inl (some (.int 0))) σ) ∧ (¬ a3 ≤ (a2 ||| x1) → Q (.inl (some (.int 1))) σ)))
set_option maxRecDepth 20000 in
theorem s_Checker_followsBound {γ : xG1} {d : Nat} {Q : xO → xS → Prop} {σ : xS} {a1 : Int32} {a2 : Int32} {a3 : Int32} {a4 : Int32} (h : wp_Checker_followsBound Q σ a1 a2 a3 a4) : xM (SHP, γ) Y_Checker_followsBound (d + 0) [.ref 44, .int a1, .int a2, .int a3, .int a4] σ Q := by
  refine xM.of (by decide) (Nat.le_of_ble_eq_true rfl) ?_
  refine xJ.iconst (v := 1) (o_Checker_followsBound 0 rfl) (by decide) ?_
  refine xJ.iload (o_Checker_followsBound 1 rfl) rfl ?_
  refine xJ.ishl (o_Checker_followsBound 2 rfl) ?_
  refine xJ.iconst (v := 1) (o_Checker_followsBound 3 rfl) (by decide) ?_
  refine xJ.isub (o_Checker_followsBound 4 rfl) ?_
  refine xJ.iload_n (o_Checker_followsBound 5 rfl) rfl ?_
  refine xJ.iconst (v := (-1)) (o_Checker_followsBound 6 rfl) (by decide) ?_
  refine xJ.ixor (o_Checker_followsBound 7 rfl) ?_
  refine xJ.iand (o_Checker_followsBound 8 rfl) ?_
  refine xJ.istore (o_Checker_followsBound 9 rfl) (by decide) ?_
  replace h := h _ rfl
  refine xJ.iload_n (o_Checker_followsBound 10 rfl) rfl ?_
  refine xJ.iload (o_Checker_followsBound 11 rfl) rfl ?_
  refine xJ.ior (o_Checker_followsBound 12 rfl) ?_
  refine xJ.iload_n (o_Checker_followsBound 13 rfl) rfl ?_
  refine xJ.icmp_ge (tgt := 24) (o_Checker_followsBound 14 rfl) (by decide) (fun z => ?_) (fun z => ?_)
  · replace h := h.1 z
    refine xJ.iconst (v := 0) (o_Checker_followsBound 17 rfl) (by decide) ?_
    exact xJ.zreturn (o_Checker_followsBound 18 rfl) rfl (Or.inl rfl) h
  · replace h := h.2 z
    refine xJ.iconst (v := 1) (o_Checker_followsBound 15 rfl) (by decide) ?_
    refine xJ.goto (tgt := 25) (o_Checker_followsBound 16 rfl) (by decide) ?_
    exact xJ.zreturn (o_Checker_followsBound 18 rfl) rfl (Or.inr rfl) h
def w_Checker_followsBoth_18 (Q : xO → xS → Prop) (a1 : Int32) (a2 : Int32) (a4 : Int32) (a6 : Int32) (t0 : Int32) (σ : xS) : Prop :=
  ((t0 = 0 → Q (.inl (some (.int 0))) σ) ∧ (¬ t0 = 0 → ((¬ a6 = ((a2 ||| a4) &&& (a1 ^^^ (-1))) → Q (.inl (some (.int 0))) σ) ∧ (a6 = ((a2 ||| a4) &&& (a1 ^^^ (-1))) → Q (.inl (some (.int 1))) σ))))
def wp_Checker_followsBoth (Q : xO → xS → Prop) (σ : xS) (a1 : Int32) (a2 : Int32) (a3 : Int32) (a4 : Int32) (a5 : Int32) (a6 : Int32) : Prop :=
  ((¬ ((a2 &&& a4) &&& (a3 ^^^ a5)) = a1 → w_Checker_followsBoth_18 Q a1 a2 a4 a6 0 σ) ∧ (((a2 &&& a4) &&& (a3 ^^^ a5)) = a1 → w_Checker_followsBoth_18 Q a1 a2 a4 a6 1 σ))
set_option maxRecDepth 20000 in
theorem sw_Checker_followsBoth_18 {γ : xG1} {d b0 : Nat} {Q : xO → xS → Prop} {a1 : Int32} {a2 : Int32} {a4 : Int32} {a6 : Int32} {t0 : Int32} {σ : xS} (h : w_Checker_followsBoth_18 Q a1 a2 a4 a6 t0 σ) : xJ (SHP, γ) Y_Checker_followsBoth (d + 0) b0 18 [(1, .int a1), (2, .int a2), (4, .int a4), (6, .int a6)] [.int t0] σ Q := by
  refine xJ.istore (o_Checker_followsBoth 12 rfl) (by decide) ?_
  refine xJ.iload (o_Checker_followsBoth 13 rfl) rfl ?_
  refine xJ.if_eq (tgt := 42) (o_Checker_followsBoth 14 rfl) (by decide) (fun z => ?_) (fun z => ?_)
  · replace h := h.1 z
    refine xJ.iconst (v := 0) (o_Checker_followsBoth 26 rfl) (by decide) ?_
    exact xJ.zreturn (o_Checker_followsBoth 27 rfl) rfl (Or.inl rfl) h
  · replace h := h.2 z
    refine xJ.iload (o_Checker_followsBoth 15 rfl) rfl ?_
    refine xJ.iload_n (o_Checker_followsBoth 16 rfl) rfl ?_
    refine xJ.iload (o_Checker_followsBoth 17 rfl) rfl ?_
    refine xJ.ior (o_Checker_followsBoth 18 rfl) ?_
    refine xJ.iload_n (o_Checker_followsBoth 19 rfl) rfl ?_
    refine xJ.iconst (v := (-1)) (o_Checker_followsBoth 20 rfl) (by decide) ?_
    refine xJ.ixor (o_Checker_followsBoth 21 rfl) ?_
    refine xJ.iand (o_Checker_followsBoth 22 rfl) ?_
    refine xJ.icmp_ne (tgt := 42) (o_Checker_followsBoth 23 rfl) (by decide) (fun z => ?_) (fun z => ?_)
    · replace h := h.1 z
      refine xJ.iconst (v := 0) (o_Checker_followsBoth 26 rfl) (by decide) ?_
      exact xJ.zreturn (o_Checker_followsBoth 27 rfl) rfl (Or.inl rfl) h
    · replace h := h.2 z
      refine xJ.iconst (v := 1) (o_Checker_followsBoth 24 rfl) (by decide) ?_
      refine xJ.goto (tgt := 43) (o_Checker_followsBoth 25 rfl) (by decide) ?_
      exact xJ.zreturn (o_Checker_followsBoth 27 rfl) rfl (Or.inr rfl) h
set_option maxRecDepth 20000 in
theorem s_Checker_followsBoth {γ : xG1} {d : Nat} {Q : xO → xS → Prop} {σ : xS} {a1 : Int32} {a2 : Int32} {a3 : Int32} {a4 : Int32} {a5 : Int32} {a6 : Int32} (h : wp_Checker_followsBoth Q σ a1 a2 a3 a4 a5 a6) : xM (SHP, γ) Y_Checker_followsBoth (d + 0) [.ref 44, .int a1, .int a2, .int a3, .int a4, .int a5, .int a6] σ Q := by
  refine xM.of (by decide) (Nat.le_of_ble_eq_true rfl) ?_
  refine xJ.iload_n (o_Checker_followsBoth 0 rfl) rfl ?_
  refine xJ.iload (o_Checker_followsBoth 1 rfl) rfl ?_
  refine xJ.iand (o_Checker_followsBoth 2 rfl) ?_
  refine xJ.iload_n (o_Checker_followsBoth 3 rfl) rfl ?_
  refine xJ.iload (o_Checker_followsBoth 4 rfl) rfl ?_
  refine xJ.ixor (o_Checker_followsBoth 5 rfl) ?_
  refine xJ.iand (o_Checker_followsBoth 6 rfl) ?_
  refine xJ.iload_n (o_Checker_followsBoth 7 rfl) rfl ?_
  refine xJ.icmp_ne (tgt := 17) (o_Checker_followsBoth 8 rfl) (by decide) (fun z => ?_) (fun z => ?_)
  · replace h := h.1 z
    refine xJ.iconst (v := 0) (o_Checker_followsBoth 11 rfl) (by decide) ?_
    exact xJ.lvs (by exact ⟨rfl, rfl, rfl, rfl, trivial⟩) (sw_Checker_followsBoth_18 h)
  · replace h := h.2 z
    refine xJ.iconst (v := 1) (o_Checker_followsBoth 9 rfl) (by decide) ?_
    refine xJ.goto (tgt := 18) (o_Checker_followsBoth 10 rfl) (by decide) ?_
    exact xJ.lvs (by exact ⟨rfl, rfl, rfl, rfl, trivial⟩) (sw_Checker_followsBoth_18 h)
