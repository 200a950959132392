def w_Terms_add_96 (Q : xO → xS → Prop) (a5 : Int32) (t1 : Int32) (t2 : Int32) (σ : xS) : Prop :=
  (vp_in t1 2000 ∧ (∀ s12 : xS, s12 = xpi σ 15 t1.toNatClampNeg (vp_nar .boolean t2) → (vp_in a5 2001 ∧ (vp_in (a5 + 1) 2001 ∧ (∀ s13 : xS, s13 = xpi s12 9 (a5 + 1).toNatClampNeg (xi s12 9 a5.toNatClampNeg) → (∀ s14 : xS, s14 = xpi s13 6 9 (a5 + 1) → Q (.inl (some (.int a5))) s14))))))
def w_Terms_add_91 (Q : xO → xS → Prop) (a5 : Int32) (t1 : Int32) (σ : xS) : Prop :=
  w_Terms_add_96 Q a5 t1 1 σ
def wp_Terms_add (Q : xO → xS → Prop) (σ : xS) (a1 : Int32) (a2 : Int32) (a3 : Int64) : Prop :=
  (∀ x1 : Int32, x1 = (xi σ 6 9) → (vp_in x1 2000 ∧ (∀ s2 : xS, s2 = xpi σ 7 x1.toNatClampNeg a1 → (vp_in x1 2000 ∧ (∀ s3 : xS, s3 = xpi s2 8 x1.toNatClampNeg a2 → (vp_in x1 2000 ∧ (∀ s4 : xS, s4 = xpi s3 11 x1.toNatClampNeg 0 → (vp_in x1 2000 ∧ (∀ s5 : xS, s5 = xpl s4 12 x1.toNatClampNeg a3 → wp_Sorts_size (xqi (fun r7 u6 => wp_Words_mask (xql (fun r9 u8 => (vp_in x1 2000 ∧ (∀ s10 : xS, s10 = xpl u8 13 x1.toNatClampNeg r9 → (vp_in x1 2000 ∧ (∀ s11 : xS, s11 = xpi s10 14 x1.toNatClampNeg x1 → ((a1 = 22 → w_Terms_add_91 Q x1 x1 s11) ∧ (¬ a1 = 22 → ((a1 = 26 → w_Terms_add_91 Q x1 x1 s11) ∧ (¬ a1 = 26 → ((a1 = 27 → w_Terms_add_91 Q x1 x1 s11) ∧ (¬ a1 = 27 → ((¬ a1 = 28 → w_Terms_add_96 Q x1 x1 0 s11) ∧ (a1 = 28 → w_Terms_add_91 Q x1 x1 s11))))))))))))) (fun n u => Q (.inr n) u)) u6 r7) (fun n u => Q (.inr n) u)) s5 a2)))))))))
set_option maxRecDepth 20000 in
theorem sw_Terms_add_96 {γ : xG1} {d b0 : Nat} {Q : xO → xS → Prop} {a5 : Int32} {t1 : Int32} {t2 : Int32} {σ : xS} (h : w_Terms_add_96 Q a5 t1 t2 σ) : xJ (SHP, γ) Y_Terms_add (d + 1) b0 96 [(0, .ref 6), (5, .int a5)] [.int t2, .int t1, .ref 15] σ Q := by
  refine xJ.zastore (o_Terms_add 53 rfl) rfl h.1 ?_
  replace h := h.2
  replace h := h _ rfl
  refine xJ.aload_n (o_Terms_add 54 rfl) rfl ?_
  refine xJ.getfield (o_Terms_add 55 rfl) f_Terms_18 rfl rfl ?_
  refine xJ.iload (o_Terms_add 56 rfl) rfl ?_
  refine xJ.iconst (v := 1) (o_Terms_add 57 rfl) (by decide) ?_
  refine xJ.iadd (o_Terms_add 58 rfl) ?_
  refine xJ.aload_n (o_Terms_add 59 rfl) rfl ?_
  refine xJ.getfield (o_Terms_add 60 rfl) f_Terms_18 rfl rfl ?_
  refine xJ.iload (o_Terms_add 61 rfl) rfl ?_
  refine xJ.iaload (o_Terms_add 62 rfl) rfl h.1 ?_
  replace h := h.2
  refine xJ.iastore (o_Terms_add 63 rfl) rfl h.1 ?_
  replace h := h.2
  replace h := h _ rfl
  refine xJ.aload_n (o_Terms_add 64 rfl) rfl ?_
  refine xJ.iload (o_Terms_add 65 rfl) rfl ?_
  refine xJ.iconst (v := 1) (o_Terms_add 66 rfl) (by decide) ?_
  refine xJ.iadd (o_Terms_add 67 rfl) ?_
  refine xJ.putI (o_Terms_add 68 rfl) f_Terms_42 rfl rfl rfl ?_
  replace h := h _ rfl
  refine xJ.iload (o_Terms_add 69 rfl) rfl ?_
  exact xJ.ireturn (o_Terms_add 70 rfl) rfl h
set_option maxRecDepth 20000 in
theorem sw_Terms_add_91 {γ : xG1} {d b0 : Nat} {Q : xO → xS → Prop} {a5 : Int32} {t1 : Int32} {σ : xS} (h : w_Terms_add_91 Q a5 t1 σ) : xJ (SHP, γ) Y_Terms_add (d + 1) b0 91 [(0, .ref 6), (5, .int a5)] [.int t1, .ref 15] σ Q := by
  refine xJ.iconst (v := 1) (o_Terms_add 50 rfl) (by decide) ?_
  refine xJ.goto (tgt := 96) (o_Terms_add 51 rfl) (by decide) ?_
  exact xJ.lvs (by exact ⟨rfl, rfl, trivial⟩) (sw_Terms_add_96 h)
set_option maxRecDepth 20000 in
theorem s_Terms_add {γ : xG1} {d : Nat} {Q : xO → xS → Prop} {σ : xS} {a1 : Int32} {a2 : Int32} {a3 : Int64} (h : wp_Terms_add Q σ a1 a2 a3) : xM (SHP, γ) Y_Terms_add (d + 1) [.ref 6, .int a1, .int a2, .long a3] σ Q := by
  refine xM.of (by decide) (Nat.le_of_ble_eq_true rfl) ?_
  refine xJ.aload_n (o_Terms_add 0 rfl) rfl ?_
  refine xJ.getfield (o_Terms_add 1 rfl) f_Terms_42 rfl rfl ?_
  refine xJ.istore (o_Terms_add 2 rfl) (by decide) ?_
  replace h := h _ rfl
  refine xJ.aload_n (o_Terms_add 3 rfl) rfl ?_
  refine xJ.getfield (o_Terms_add 4 rfl) f_Terms_9 rfl rfl ?_
  refine xJ.iload (o_Terms_add 5 rfl) rfl ?_
  refine xJ.iload_n (o_Terms_add 6 rfl) rfl ?_
  refine xJ.iastore (o_Terms_add 7 rfl) rfl h.1 ?_
  replace h := h.2
  replace h := h _ rfl
  refine xJ.aload_n (o_Terms_add 8 rfl) rfl ?_
  refine xJ.getfield (o_Terms_add 9 rfl) f_Terms_15 rfl rfl ?_
  refine xJ.iload (o_Terms_add 10 rfl) rfl ?_
  refine xJ.iload_n (o_Terms_add 11 rfl) rfl ?_
  refine xJ.iastore (o_Terms_add 12 rfl) rfl h.1 ?_
  replace h := h.2
  replace h := h _ rfl
  refine xJ.aload_n (o_Terms_add 13 rfl) rfl ?_
  refine xJ.getfield (o_Terms_add 14 rfl) f_Terms_25 rfl rfl ?_
  refine xJ.iload (o_Terms_add 15 rfl) rfl ?_
  refine xJ.iconst (v := 0) (o_Terms_add 16 rfl) (by decide) ?_
  refine xJ.iastore (o_Terms_add 17 rfl) rfl h.1 ?_
  replace h := h.2
  replace h := h _ rfl
  refine xJ.aload_n (o_Terms_add 18 rfl) rfl ?_
  refine xJ.getfield (o_Terms_add 19 rfl) f_Terms_28 rfl rfl ?_
  refine xJ.iload (o_Terms_add 20 rfl) rfl ?_
  refine xJ.lload_n (o_Terms_add 21 rfl) rfl ?_
  refine xJ.lastore (o_Terms_add 22 rfl) rfl h.1 ?_
  replace h := h.2
  replace h := h _ rfl
  refine xJ.aload_n (o_Terms_add 23 rfl) rfl ?_
  refine xJ.getfield (o_Terms_add 24 rfl) f_Terms_32 rfl rfl ?_
  refine xJ.iload (o_Terms_add 25 rfl) rfl ?_
  refine xJ.iload_n (o_Terms_add 26 rfl) rfl ?_
  refine xJ.callS (Y' := Y_Sorts_size) (o_Terms_add 27 rfl) m_Terms_46 y_Sorts_size st_Sorts_size (s_Sorts_size h) rfl rfl (Nat.le_of_ble_eq_true rfl) (fun _ hx => by cases hx) (fun v u q => ?_) (fun n u q => q)
  obtain ⟨r, rfl, h⟩ := xqi_get q
  refine xJ.callS (Y' := Y_Words_mask) (o_Terms_add 28 rfl) m_Terms_52 y_Words_mask st_Words_mask (s_Words_mask h) rfl rfl (Nat.le_of_ble_eq_true rfl) (fun _ hx => by cases hx) (fun v u q => ?_) (fun n u q => q)
  obtain ⟨r, rfl, h⟩ := xql_get q
  refine xJ.lastore (o_Terms_add 29 rfl) rfl h.1 ?_
  replace h := h.2
  replace h := h _ rfl
  refine xJ.aload_n (o_Terms_add 30 rfl) rfl ?_
  refine xJ.getfield (o_Terms_add 31 rfl) f_Terms_35 rfl rfl ?_
  refine xJ.iload (o_Terms_add 32 rfl) rfl ?_
  refine xJ.iload (o_Terms_add 33 rfl) rfl ?_
  refine xJ.iastore (o_Terms_add 34 rfl) rfl h.1 ?_
  replace h := h.2
  replace h := h _ rfl
  refine xJ.aload_n (o_Terms_add 35 rfl) rfl ?_
  refine xJ.getfield (o_Terms_add 36 rfl) f_Terms_38 rfl rfl ?_
  refine xJ.iload (o_Terms_add 37 rfl) rfl ?_
  refine xJ.iload_n (o_Terms_add 38 rfl) rfl ?_
  refine xJ.bipush (v := 22) (o_Terms_add 39 rfl) (by decide) ?_
  refine xJ.icmp_eq (tgt := 91) (o_Terms_add 40 rfl) (by decide) (fun z => ?_) (fun z => ?_)
  · replace h := h.1 z
    exact xJ.lvs (by exact ⟨rfl, rfl, trivial⟩) (sw_Terms_add_91 h)
  · replace h := h.2 z
    refine xJ.iload_n (o_Terms_add 41 rfl) rfl ?_
    refine xJ.bipush (v := 26) (o_Terms_add 42 rfl) (by decide) ?_
    refine xJ.icmp_eq (tgt := 91) (o_Terms_add 43 rfl) (by decide) (fun z => ?_) (fun z => ?_)
    · replace h := h.1 z
      exact xJ.lvs (by exact ⟨rfl, rfl, trivial⟩) (sw_Terms_add_91 h)
    · replace h := h.2 z
      refine xJ.iload_n (o_Terms_add 44 rfl) rfl ?_
      refine xJ.bipush (v := 27) (o_Terms_add 45 rfl) (by decide) ?_
      refine xJ.icmp_eq (tgt := 91) (o_Terms_add 46 rfl) (by decide) (fun z => ?_) (fun z => ?_)
      · replace h := h.1 z
        exact xJ.lvs (by exact ⟨rfl, rfl, trivial⟩) (sw_Terms_add_91 h)
      · replace h := h.2 z
        refine xJ.iload_n (o_Terms_add 47 rfl) rfl ?_
        refine xJ.bipush (v := 28) (o_Terms_add 48 rfl) (by decide) ?_
        refine xJ.icmp_ne (tgt := 95) (o_Terms_add 49 rfl) (by decide) (fun z => ?_) (fun z => ?_)
        · replace h := h.1 z
          refine xJ.iconst (v := 0) (o_Terms_add 52 rfl) (by decide) ?_
          exact xJ.lvs (by exact ⟨rfl, rfl, trivial⟩) (sw_Terms_add_96 h)
        · replace h := h.2 z
          exact xJ.lvs (by exact ⟨rfl, rfl, trivial⟩) (sw_Terms_add_91 h)
theorem sc_Terms_keepsPlaces_6 {x : Int32} {P : Nat → Prop} (k0 : x = 10 → P 86) (k1 : x = 11 ∨ x = 12 ∨ x = 18 ∨ x = 21 ∨ x = 23 ∨ x = 24 ∨ x = 25 → P 84) (kd : ¬ x = 10 ∧ ¬ x = 11 ∧ ¬ x = 12 ∧ ¬ x = 18 ∧ ¬ x = 21 ∧ ¬ x = 23 ∧ ¬ x = 24 ∧ ¬ x = 25 → P 101) : ∃ t : Nat, xdst 6 95 10 25 #[80, 78, 78, 95, 95, 95, 95, 95, 78, 95, 95, 78, 95, 78, 78, 78] x = (t : Int) ∧ P t := by
  by_cases h0_0 : x = 10
  · subst h0_0; exact ⟨86, by decide, k0 (rfl)⟩
  by_cases h1_0 : x = 11
  · subst h1_0; exact ⟨84, by decide, k1 (Or.inl rfl)⟩
  by_cases h1_1 : x = 12
  · subst h1_1; exact ⟨84, by decide, k1 (Or.inr (Or.inl rfl))⟩
  by_cases h1_2 : x = 18
  · subst h1_2; exact ⟨84, by decide, k1 (Or.inr (Or.inr (Or.inl rfl)))⟩
  by_cases h1_3 : x = 21
  · subst h1_3; exact ⟨84, by decide, k1 (Or.inr (Or.inr (Or.inr (Or.inl rfl))))⟩
  by_cases h1_4 : x = 23
  · subst h1_4; exact ⟨84, by decide, k1 (Or.inr (Or.inr (Or.inr (Or.inr (Or.inl rfl)))))⟩
  by_cases h1_5 : x = 24
  · subst h1_5; exact ⟨84, by decide, k1 (Or.inr (Or.inr (Or.inr (Or.inr (Or.inr (Or.inl rfl))))))⟩
  by_cases h1_6 : x = 25
  · subst h1_6; exact ⟨84, by decide, k1 (Or.inr (Or.inr (Or.inr (Or.inr (Or.inr (Or.inr (rfl)))))))⟩
  have nh0_0 := lv_neT h0_0 (show (10 : Int32).toInt = 10 by decide)
  have nh1_0 := lv_neT h1_0 (show (11 : Int32).toInt = 11 by decide)
  have nh1_1 := lv_neT h1_1 (show (12 : Int32).toInt = 12 by decide)
  have nh1_2 := lv_neT h1_2 (show (18 : Int32).toInt = 18 by decide)
  have nh1_3 := lv_neT h1_3 (show (21 : Int32).toInt = 21 by decide)
  have nh1_4 := lv_neT h1_4 (show (23 : Int32).toInt = 23 by decide)
  have nh1_5 := lv_neT h1_5 (show (24 : Int32).toInt = 24 by decide)
  have nh1_6 := lv_neT h1_6 (show (25 : Int32).toInt = 25 by decide)
  refine ⟨101, ?_, kd ⟨h0_0, h1_0, h1_1, h1_2, h1_3, h1_4, h1_5, h1_6⟩⟩
  by_cases d3 : x = 13
  · subst d3; decide
  by_cases d4 : x = 14
  · subst d4; decide
  by_cases d5 : x = 15
  · subst d5; decide
  by_cases d6 : x = 16
  · subst d6; decide
  by_cases d7 : x = 17
  · subst d7; decide
  by_cases d9 : x = 19
  · subst d9; decide
  by_cases d10 : x = 20
  · subst d10; decide
  by_cases d12 : x = 22
  · subst d12; decide
  have nd3 := lv_neT d3 (show (13 : Int32).toInt = 13 by decide)
  have nd4 := lv_neT d4 (show (14 : Int32).toInt = 14 by decide)
  have nd5 := lv_neT d5 (show (15 : Int32).toInt = 15 by decide)
  have nd6 := lv_neT d6 (show (16 : Int32).toInt = 16 by decide)
  have nd7 := lv_neT d7 (show (17 : Int32).toInt = 17 by decide)
  have nd9 := lv_neT d9 (show (19 : Int32).toInt = 19 by decide)
  have nd10 := lv_neT d10 (show (20 : Int32).toInt = 20 by decide)
  have nd12 := lv_neT d12 (show (22 : Int32).toInt = 22 by decide)
  exact xdst_out (by omega) rfl
def wp_Terms_keepsPlaces (Q : xO → xS → Prop) (σ : xS) (a1 : Int32) : Prop :=
  (vp_in a1 2000 ∧ (((xi σ 7 a1.toNatClampNeg) = 10 → (vp_in a1 2000 ∧ ((¬ (xi σ 11 a1.toNatClampNeg) = 0 → Q (.inl (some (.int 0))) σ) ∧ ((xi σ 11 a1.toNatClampNeg) = 0 → Q (.inl (some (.int 1))) σ)))) ∧ ((xi σ 7 a1.toNatClampNeg) = 11 ∨ (xi σ 7 a1.toNatClampNeg) = 12 ∨ (xi σ 7 a1.toNatClampNeg) = 18 ∨ (xi σ 7 a1.toNatClampNeg) = 21 ∨ (xi σ 7 a1.toNatClampNeg) = 23 ∨ (xi σ 7 a1.toNatClampNeg) = 24 ∨ (xi σ 7 a1.toNatClampNeg) = 25 → Q (.inl (some (.int 1))) σ) ∧ (¬ (xi σ 7 a1.toNatClampNeg) = 10 ∧ ¬ (xi σ 7 a1.toNatClampNeg) = 11 ∧ ¬ (xi σ 7 a1.toNatClampNeg) = 12 ∧ ¬ (xi σ 7 a1.toNatClampNeg) = 18 ∧ ¬ (xi σ 7 a1.toNatClampNeg) = 21 ∧ ¬ (xi σ 7 a1.toNatClampNeg) = 23 ∧ ¬ (xi σ 7 a1.toNatClampNeg) = 24 ∧ ¬ (xi σ 7 a1.toNatClampNeg) = 25 → Q (.inl (some (.int 0))) σ)))
set_option maxRecDepth 20000 in
theorem s_Terms_keepsPlaces {γ : xG1} {d : Nat} {Q : xO → xS → Prop} {σ : xS} {a1 : Int32} (h : wp_Terms_keepsPlaces Q σ a1) : xM (SHP, γ) Y_Terms_keepsPlaces (d + 0) [.ref 6, .int a1] σ Q := by
  refine xM.of (by decide) (Nat.le_of_ble_eq_true rfl) ?_
  refine xJ.aload_n (o_Terms_keepsPlaces 0 rfl) rfl ?_
  refine xJ.getfield (o_Terms_keepsPlaces 1 rfl) f_Terms_9 rfl rfl ?_
  refine xJ.iload_n (o_Terms_keepsPlaces 2 rfl) rfl ?_
  refine xJ.iaload (o_Terms_keepsPlaces 3 rfl) rfl h.1 ?_
  replace h := h.2
  refine xJ.tsw (o_Terms_keepsPlaces 4 rfl) (by decide) (sc_Terms_keepsPlaces_6 (fun z => ?_) (fun z => ?_) (fun z => ?_))
  · replace h := h.1 z
    refine xJ.aload_n (o_Terms_keepsPlaces 7 rfl) rfl ?_
    refine xJ.getfield (o_Terms_keepsPlaces 8 rfl) f_Terms_25 rfl rfl ?_
    refine xJ.iload_n (o_Terms_keepsPlaces 9 rfl) rfl ?_
    refine xJ.iaload (o_Terms_keepsPlaces 10 rfl) rfl h.1 ?_
    replace h := h.2
    refine xJ.if_ne (tgt := 99) (o_Terms_keepsPlaces 11 rfl) (by decide) (fun z => ?_) (fun z => ?_)
    · replace h := h.1 z
      refine xJ.iconst (v := 0) (o_Terms_keepsPlaces 14 rfl) (by decide) ?_
      exact xJ.zreturn (o_Terms_keepsPlaces 15 rfl) rfl (Or.inl rfl) h
    · replace h := h.2 z
      refine xJ.iconst (v := 1) (o_Terms_keepsPlaces 12 rfl) (by decide) ?_
      refine xJ.goto (tgt := 100) (o_Terms_keepsPlaces 13 rfl) (by decide) ?_
      exact xJ.zreturn (o_Terms_keepsPlaces 15 rfl) rfl (Or.inr rfl) h
  · replace h := h.2.1 z
    refine xJ.iconst (v := 1) (o_Terms_keepsPlaces 5 rfl) (by decide) ?_
    exact xJ.zreturn (o_Terms_keepsPlaces 6 rfl) rfl (Or.inr rfl) h
  · replace h := h.2.2 z
    refine xJ.iconst (v := 0) (o_Terms_keepsPlaces 16 rfl) (by decide) ?_
    exact xJ.zreturn (o_Terms_keepsPlaces 17 rfl) rfl (Or.inl rfl) h
def w_Terms_addArgument_74 (Q : xO → xS → Prop) (a1 : Int32) (a2 : Int32) (σ : xS) : Prop :=
  (vp_in a2 2000 ∧ (((xi σ 15 a2.toNatClampNeg) = 0 → Q (.inl none) σ) ∧ (¬ (xi σ 15 a2.toNatClampNeg) = 0 → wp_Terms_keepsPlaces (xqi (fun r3 u2 => ((r3 = 0 → Q (.inl none) u2) ∧ (¬ r3 = 0 → (vp_in a1 2000 ∧ (∀ s4 : xS, s4 = xpi u2 15 a1.toNatClampNeg (vp_nar .boolean 1) → Q (.inl none) s4))))) (fun n u => Q (.inr n) u)) σ a1)))
def w_Terms_addArgument_36 (Q : xO → xS → Prop) (a1 : Int32) (a2 : Int32) (σ : xS) : Prop :=
  (vp_in a2 2000 ∧ (((xi σ 7 a2.toNatClampNeg) = 47 → w_Terms_addArgument_74 Q a1 a2 σ) ∧ (¬ (xi σ 7 a2.toNatClampNeg) = 47 → (vp_in a2 2000 ∧ (vp_in a1 2000 ∧ (((xi σ 14 a1.toNatClampNeg) ≤ (xi σ 14 a2.toNatClampNeg) → w_Terms_addArgument_74 Q a1 a2 σ) ∧ (¬ (xi σ 14 a1.toNatClampNeg) ≤ (xi σ 14 a2.toNatClampNeg) → (vp_in a2 2000 ∧ (vp_in a1 2000 ∧ (∀ s5 : xS, s5 = xpi σ 14 a1.toNatClampNeg (xi σ 14 a2.toNatClampNeg) → w_Terms_addArgument_74 Q a1 a2 s5))))))))))
def wp_Terms_addArgument (Q : xO → xS → Prop) (σ : xS) (a1 : Int32) (a2 : Int32) : Prop :=
  (vp_in (a1 + 1) 2001 ∧ (∀ x1 : Int32, x1 = (xi σ 9 (a1 + 1).toNatClampNeg) → (((Int32.ofNat 80000) ≤ x1 → w_Terms_addArgument_36 Q a1 a2 σ) ∧ (¬ (Int32.ofNat 80000) ≤ x1 → (vp_in x1 80000 ∧ (∀ s6 : xS, s6 = xpi σ 10 x1.toNatClampNeg a2 → (vp_in (a1 + 1) 2001 ∧ (∀ s7 : xS, s7 = xpi s6 9 (a1 + 1).toNatClampNeg (x1 + 1) → w_Terms_addArgument_36 Q a1 a2 s7))))))))
set_option maxRecDepth 20000 in
theorem sw_Terms_addArgument_74 {γ : xG1} {d b0 : Nat} {Q : xO → xS → Prop} {a1 : Int32} {a2 : Int32} {σ : xS} (h : w_Terms_addArgument_74 Q a1 a2 σ) : xJ (SHP, γ) Y_Terms_addArgument (d + 1) b0 74 [(0, .ref 6), (1, .int a1), (2, .int a2)] [] σ Q := by
  refine xJ.aload_n (o_Terms_addArgument 49 rfl) rfl ?_
  refine xJ.getfield (o_Terms_addArgument 50 rfl) f_Terms_38 rfl rfl ?_
  refine xJ.iload_n (o_Terms_addArgument 51 rfl) rfl ?_
  refine xJ.zaload (o_Terms_addArgument 52 rfl) rfl h.1 ?_
  replace h := h.2
  refine xJ.if_eq (tgt := 98) (o_Terms_addArgument 53 rfl) (by decide) (fun z => ?_) (fun z => ?_)
  · replace h := h.1 z
    exact xJ.return_ (o_Terms_addArgument 63 rfl) rfl h
  · replace h := h.2 z
    refine xJ.aload_n (o_Terms_addArgument 54 rfl) rfl ?_
    refine xJ.iload_n (o_Terms_addArgument 55 rfl) rfl ?_
    refine xJ.callV (Y' := Y_Terms_keepsPlaces) (o_Terms_addArgument 56 rfl) m_Terms_58 y_Terms_keepsPlaces im_Terms_keepsPlaces se_Terms_keepsPlaces rfl rfl (s_Terms_keepsPlaces h) rfl rfl (Nat.le_of_ble_eq_true rfl) (fun _ hx => by cases hx) (fun v u q => ?_) (fun n u q => q)
    obtain ⟨r, rfl, h⟩ := xqi_get q
    refine xJ.if_eq (tgt := 98) (o_Terms_addArgument 57 rfl) (by decide) (fun z => ?_) (fun z => ?_)
    · replace h := h.1 z
      exact xJ.return_ (o_Terms_addArgument 63 rfl) rfl h
    · replace h := h.2 z
      refine xJ.aload_n (o_Terms_addArgument 58 rfl) rfl ?_
      refine xJ.getfield (o_Terms_addArgument 59 rfl) f_Terms_38 rfl rfl ?_
      refine xJ.iload_n (o_Terms_addArgument 60 rfl) rfl ?_
      refine xJ.iconst (v := 1) (o_Terms_addArgument 61 rfl) (by decide) ?_
      refine xJ.zastore (o_Terms_addArgument 62 rfl) rfl h.1 ?_
      replace h := h.2
      replace h := h _ rfl
      exact xJ.return_ (o_Terms_addArgument 63 rfl) rfl h
set_option maxRecDepth 20000 in
theorem sw_Terms_addArgument_36 {γ : xG1} {d b0 : Nat} {Q : xO → xS → Prop} {a1 : Int32} {a2 : Int32} {σ : xS} (h : w_Terms_addArgument_36 Q a1 a2 σ) : xJ (SHP, γ) Y_Terms_addArgument (d + 1) b0 36 [(0, .ref 6), (1, .int a1), (2, .int a2)] [] σ Q := by
  refine xJ.aload_n (o_Terms_addArgument 26 rfl) rfl ?_
  refine xJ.getfield (o_Terms_addArgument 27 rfl) f_Terms_9 rfl rfl ?_
  refine xJ.iload_n (o_Terms_addArgument 28 rfl) rfl ?_
  refine xJ.iaload (o_Terms_addArgument 29 rfl) rfl h.1 ?_
  replace h := h.2
  refine xJ.bipush (v := 47) (o_Terms_addArgument 30 rfl) (by decide) ?_
  refine xJ.icmp_eq (tgt := 74) (o_Terms_addArgument 31 rfl) (by decide) (fun z => ?_) (fun z => ?_)
  · replace h := h.1 z
    exact xJ.lvs (by exact ⟨rfl, rfl, rfl, trivial⟩) (sw_Terms_addArgument_74 h)
  · replace h := h.2 z
    refine xJ.aload_n (o_Terms_addArgument 32 rfl) rfl ?_
    refine xJ.getfield (o_Terms_addArgument 33 rfl) f_Terms_35 rfl rfl ?_
    refine xJ.iload_n (o_Terms_addArgument 34 rfl) rfl ?_
    refine xJ.iaload (o_Terms_addArgument 35 rfl) rfl h.1 ?_
    replace h := h.2
    refine xJ.aload_n (o_Terms_addArgument 36 rfl) rfl ?_
    refine xJ.getfield (o_Terms_addArgument 37 rfl) f_Terms_35 rfl rfl ?_
    refine xJ.iload_n (o_Terms_addArgument 38 rfl) rfl ?_
    refine xJ.iaload (o_Terms_addArgument 39 rfl) rfl h.1 ?_
    replace h := h.2
    refine xJ.icmp_ge (tgt := 74) (o_Terms_addArgument 40 rfl) (by decide) (fun z => ?_) (fun z => ?_)
    · replace h := h.1 z
      exact xJ.lvs (by exact ⟨rfl, rfl, rfl, trivial⟩) (sw_Terms_addArgument_74 h)
    · replace h := h.2 z
      refine xJ.aload_n (o_Terms_addArgument 41 rfl) rfl ?_
      refine xJ.getfield (o_Terms_addArgument 42 rfl) f_Terms_35 rfl rfl ?_
      refine xJ.iload_n (o_Terms_addArgument 43 rfl) rfl ?_
      refine xJ.aload_n (o_Terms_addArgument 44 rfl) rfl ?_
      refine xJ.getfield (o_Terms_addArgument 45 rfl) f_Terms_35 rfl rfl ?_
      refine xJ.iload_n (o_Terms_addArgument 46 rfl) rfl ?_
      refine xJ.iaload (o_Terms_addArgument 47 rfl) rfl h.1 ?_
      replace h := h.2
      refine xJ.iastore (o_Terms_addArgument 48 rfl) rfl h.1 ?_
      replace h := h.2
      replace h := h _ rfl
      exact xJ.lvs (by exact ⟨rfl, rfl, rfl, trivial⟩) (sw_Terms_addArgument_74 h)
set_option maxRecDepth 20000 in
theorem s_Terms_addArgument {γ : xG1} {d : Nat} {Q : xO → xS → Prop} {σ : xS} {a1 : Int32} {a2 : Int32} (h : wp_Terms_addArgument Q σ a1 a2) : xM (SHP, γ) Y_Terms_addArgument (d + 1) [.ref 6, .int a1, .int a2] σ Q := by
  refine xM.of (by decide) (Nat.le_of_ble_eq_true rfl) ?_
  refine xJ.aload_n (o_Terms_addArgument 0 rfl) rfl ?_
  refine xJ.getfield (o_Terms_addArgument 1 rfl) f_Terms_18 rfl rfl ?_
  refine xJ.iload_n (o_Terms_addArgument 2 rfl) rfl ?_
  refine xJ.iconst (v := 1) (o_Terms_addArgument 3 rfl) (by decide) ?_
  refine xJ.iadd (o_Terms_addArgument 4 rfl) ?_
  refine xJ.iaload (o_Terms_addArgument 5 rfl) rfl h.1 ?_
  replace h := h.2
  refine xJ.istore_n (o_Terms_addArgument 6 rfl) (by decide) ?_
  replace h := h _ rfl
  refine xJ.iload_n (o_Terms_addArgument 7 rfl) rfl ?_
  refine xJ.aload_n (o_Terms_addArgument 8 rfl) rfl ?_
  refine xJ.getfield (o_Terms_addArgument 9 rfl) f_Terms_22 rfl rfl ?_
  refine xJ.alen (o_Terms_addArgument 10 rfl) rfl ?_
  refine xJ.icmp_ge (tgt := 36) (o_Terms_addArgument 11 rfl) (by decide) (fun z => ?_) (fun z => ?_)
  · replace h := h.1 z
    exact xJ.lvs (by exact ⟨rfl, rfl, rfl, trivial⟩) (sw_Terms_addArgument_36 h)
  · replace h := h.2 z
    refine xJ.aload_n (o_Terms_addArgument 12 rfl) rfl ?_
    refine xJ.getfield (o_Terms_addArgument 13 rfl) f_Terms_22 rfl rfl ?_
    refine xJ.iload_n (o_Terms_addArgument 14 rfl) rfl ?_
    refine xJ.iload_n (o_Terms_addArgument 15 rfl) rfl ?_
    refine xJ.iastore (o_Terms_addArgument 16 rfl) rfl h.1 ?_
    replace h := h.2
    replace h := h _ rfl
    refine xJ.aload_n (o_Terms_addArgument 17 rfl) rfl ?_
    refine xJ.getfield (o_Terms_addArgument 18 rfl) f_Terms_18 rfl rfl ?_
    refine xJ.iload_n (o_Terms_addArgument 19 rfl) rfl ?_
    refine xJ.iconst (v := 1) (o_Terms_addArgument 20 rfl) (by decide) ?_
    refine xJ.iadd (o_Terms_addArgument 21 rfl) ?_
    refine xJ.iload_n (o_Terms_addArgument 22 rfl) rfl ?_
    refine xJ.iconst (v := 1) (o_Terms_addArgument 23 rfl) (by decide) ?_
    refine xJ.iadd (o_Terms_addArgument 24 rfl) ?_
    refine xJ.iastore (o_Terms_addArgument 25 rfl) rfl h.1 ?_
    replace h := h.2
    replace h := h _ rfl
    exact xJ.lvs (by exact ⟨rfl, rfl, rfl, trivial⟩) (sw_Terms_addArgument_36 h)
def wp_Book_size (Q : xO → xS → Prop) (σ : xS)  : Prop :=
  (vp_in (xi σ 5 8) 501 ∧ Q (.inl (some (.int (xi σ 21 (xi σ 5 8).toNatClampNeg)))) σ)
set_option maxRecDepth 20000 in
theorem s_Book_size {γ : xG1} {d : Nat} {Q : xO → xS → Prop} {σ : xS}  (h : wp_Book_size Q σ ) : xM (SHP, γ) Y_Book_size (d + 0) [.ref 5] σ Q := by
  refine xM.of (by decide) (Nat.le_of_ble_eq_true rfl) ?_
  refine xJ.aload_n (o_Book_size 0 rfl) rfl ?_
  refine xJ.getfield (o_Book_size 1 rfl) f_Book_36 rfl rfl ?_
  refine xJ.aload_n (o_Book_size 2 rfl) rfl ?_
  refine xJ.getfield (o_Book_size 3 rfl) f_Book_45 rfl rfl ?_
  refine xJ.iaload (o_Book_size 4 rfl) rfl h.1 ?_
  replace h := h.2
  exact xJ.ireturn (o_Book_size 5 rfl) rfl h
def wp_Book_shift (Q : xO → xS → Prop) (σ : xS) (a1 : Int32) (a2 : Int32) : Prop :=
  (vp_in (a1 + 1) 501 ∧ Q (.inl (some (.int (a2 - (xi σ 21 (a1 + 1).toNatClampNeg))))) σ)
set_option maxRecDepth 20000 in
theorem s_Book_shift {γ : xG1} {d : Nat} {Q : xO → xS → Prop} {σ : xS} {a1 : Int32} {a2 : Int32} (h : wp_Book_shift Q σ a1 a2) : xM (SHP, γ) Y_Book_shift (d + 0) [.ref 5, .int a1, .int a2] σ Q := by
  refine xM.of (by decide) (Nat.le_of_ble_eq_true rfl) ?_
  refine xJ.iload_n (o_Book_shift 0 rfl) rfl ?_
  refine xJ.aload_n (o_Book_shift 1 rfl) rfl ?_
  refine xJ.getfield (o_Book_shift 2 rfl) f_Book_36 rfl rfl ?_
  refine xJ.iload_n (o_Book_shift 3 rfl) rfl ?_
  refine xJ.iconst (v := 1) (o_Book_shift 4 rfl) (by decide) ?_
  refine xJ.iadd (o_Book_shift 5 rfl) ?_
  refine xJ.iaload (o_Book_shift 6 rfl) rfl h.1 ?_
  replace h := h.2
  refine xJ.isub (o_Book_shift 7 rfl) ?_
  exact xJ.ireturn (o_Book_shift 8 rfl) rfl h
def wp_Book_keep (Q : xO → xS → Prop) (σ : xS)  : Prop :=
  (vp_in 0 5 ∧ (∀ s1 : xS, s1 = xpi σ 23 (0 : Int32).toNatClampNeg (xi σ 6 9) → (vp_in 1 5 ∧ (∀ s2 : xS, s2 = xpi s1 23 (1 : Int32).toNatClampNeg (xi s1 6 10) → (vp_in 2 5 ∧ (∀ s3 : xS, s3 = xpi s2 23 (2 : Int32).toNatClampNeg (xi s2 5 4) → (vp_in 3 5 ∧ (∀ s4 : xS, s4 = xpi s3 23 (3 : Int32).toNatClampNeg (xi s3 5 8) → (vp_in 4 5 ∧ (∀ s5 : xS, s5 = xpi s4 23 (4 : Int32).toNatClampNeg (xi s4 5 10) → Q (.inl none) s5))))))))))
set_option maxRecDepth 20000 in
theorem s_Book_keep {γ : xG1} {d : Nat} {Q : xO → xS → Prop} {σ : xS}  (h : wp_Book_keep Q σ ) : xM (SHP, γ) Y_Book_keep (d + 0) [.ref 5] σ Q := by
  refine xM.of (by decide) (Nat.le_of_ble_eq_true rfl) ?_
  refine xJ.aload_n (o_Book_keep 0 rfl) rfl ?_
  refine xJ.getfield (o_Book_keep 1 rfl) f_Book_42 rfl rfl ?_
  refine xJ.iconst (v := 0) (o_Book_keep 2 rfl) (by decide) ?_
  refine xJ.aload_n (o_Book_keep 3 rfl) rfl ?_
  refine xJ.getfield (o_Book_keep 4 rfl) f_Book_12 rfl rfl ?_
  refine xJ.getfield (o_Book_keep 5 rfl) f_Book_49 rfl rfl ?_
  refine xJ.iastore (o_Book_keep 6 rfl) rfl h.1 ?_
  replace h := h.2
  replace h := h _ rfl
  refine xJ.aload_n (o_Book_keep 7 rfl) rfl ?_
  refine xJ.getfield (o_Book_keep 8 rfl) f_Book_42 rfl rfl ?_
  refine xJ.iconst (v := 1) (o_Book_keep 9 rfl) (by decide) ?_
  refine xJ.aload_n (o_Book_keep 10 rfl) rfl ?_
  refine xJ.getfield (o_Book_keep 11 rfl) f_Book_12 rfl rfl ?_
  refine xJ.getfield (o_Book_keep 12 rfl) f_Book_52 rfl rfl ?_
  refine xJ.iastore (o_Book_keep 13 rfl) rfl h.1 ?_
  replace h := h.2
  replace h := h _ rfl
  refine xJ.aload_n (o_Book_keep 14 rfl) rfl ?_
  refine xJ.getfield (o_Book_keep 15 rfl) f_Book_42 rfl rfl ?_
  refine xJ.iconst (v := 2) (o_Book_keep 16 rfl) (by decide) ?_
  refine xJ.aload_n (o_Book_keep 17 rfl) rfl ?_
  refine xJ.getfield (o_Book_keep 18 rfl) f_Book_55 rfl rfl ?_
  refine xJ.iastore (o_Book_keep 19 rfl) rfl h.1 ?_
  replace h := h.2
  replace h := h _ rfl
  refine xJ.aload_n (o_Book_keep 20 rfl) rfl ?_
  refine xJ.getfield (o_Book_keep 21 rfl) f_Book_42 rfl rfl ?_
  refine xJ.iconst (v := 3) (o_Book_keep 22 rfl) (by decide) ?_
  refine xJ.aload_n (o_Book_keep 23 rfl) rfl ?_
  refine xJ.getfield (o_Book_keep 24 rfl) f_Book_45 rfl rfl ?_
  refine xJ.iastore (o_Book_keep 25 rfl) rfl h.1 ?_
  replace h := h.2
  replace h := h _ rfl
  refine xJ.aload_n (o_Book_keep 26 rfl) rfl ?_
  refine xJ.getfield (o_Book_keep 27 rfl) f_Book_42 rfl rfl ?_
  refine xJ.iconst (v := 4) (o_Book_keep 28 rfl) (by decide) ?_
  refine xJ.aload_n (o_Book_keep 29 rfl) rfl ?_
  refine xJ.getfield (o_Book_keep 30 rfl) f_Book_58 rfl rfl ?_
  refine xJ.iastore (o_Book_keep 31 rfl) rfl h.1 ?_
  replace h := h.2
  replace h := h _ rfl
  exact xJ.return_ (o_Book_keep 32 rfl) rfl h
def wp_Book_goBack (Q : xO → xS → Prop) (σ : xS)  : Prop :=
  (vp_in 0 5 ∧ (∀ s1 : xS, s1 = xpi σ 6 9 (xi σ 23 (0 : Int32).toNatClampNeg) → (vp_in 1 5 ∧ (∀ s2 : xS, s2 = xpi s1 6 10 (xi s1 23 (1 : Int32).toNatClampNeg) → (vp_in 2 5 ∧ (∀ s3 : xS, s3 = xpi s2 5 4 (xi s2 23 (2 : Int32).toNatClampNeg) → (vp_in 3 5 ∧ (∀ s4 : xS, s4 = xpi s3 5 8 (xi s3 23 (3 : Int32).toNatClampNeg) → (vp_in 4 5 ∧ (∀ s5 : xS, s5 = xpi s4 5 10 (xi s4 23 (4 : Int32).toNatClampNeg) → Q (.inl none) s5))))))))))
set_option maxRecDepth 20000 in
theorem s_Book_goBack {γ : xG1} {d : Nat} {Q : xO → xS → Prop} {σ : xS}  (h : wp_Book_goBack Q σ ) : xM (SHP, γ) Y_Book_goBack (d + 0) [.ref 5] σ Q := by
  refine xM.of (by decide) (Nat.le_of_ble_eq_true rfl) ?_
  refine xJ.aload_n (o_Book_goBack 0 rfl) rfl ?_
  refine xJ.getfield (o_Book_goBack 1 rfl) f_Book_12 rfl rfl ?_
  refine xJ.aload_n (o_Book_goBack 2 rfl) rfl ?_
  refine xJ.getfield (o_Book_goBack 3 rfl) f_Book_42 rfl rfl ?_
  refine xJ.iconst (v := 0) (o_Book_goBack 4 rfl) (by decide) ?_
  refine xJ.iaload (o_Book_goBack 5 rfl) rfl h.1 ?_
  replace h := h.2
  refine xJ.putI (o_Book_goBack 6 rfl) f_Book_49 rfl rfl rfl ?_
  replace h := h _ rfl
  refine xJ.aload_n (o_Book_goBack 7 rfl) rfl ?_
  refine xJ.getfield (o_Book_goBack 8 rfl) f_Book_12 rfl rfl ?_
  refine xJ.aload_n (o_Book_goBack 9 rfl) rfl ?_
  refine xJ.getfield (o_Book_goBack 10 rfl) f_Book_42 rfl rfl ?_
  refine xJ.iconst (v := 1) (o_Book_goBack 11 rfl) (by decide) ?_
  refine xJ.iaload (o_Book_goBack 12 rfl) rfl h.1 ?_
  replace h := h.2
  refine xJ.putI (o_Book_goBack 13 rfl) f_Book_52 rfl rfl rfl ?_
  replace h := h _ rfl
  refine xJ.aload_n (o_Book_goBack 14 rfl) rfl ?_
  refine xJ.aload_n (o_Book_goBack 15 rfl) rfl ?_
  refine xJ.getfield (o_Book_goBack 16 rfl) f_Book_42 rfl rfl ?_
  refine xJ.iconst (v := 2) (o_Book_goBack 17 rfl) (by decide) ?_
  refine xJ.iaload (o_Book_goBack 18 rfl) rfl h.1 ?_
  replace h := h.2
  refine xJ.putI (o_Book_goBack 19 rfl) f_Book_55 rfl rfl rfl ?_
  replace h := h _ rfl
  refine xJ.aload_n (o_Book_goBack 20 rfl) rfl ?_
  refine xJ.aload_n (o_Book_goBack 21 rfl) rfl ?_
  refine xJ.getfield (o_Book_goBack 22 rfl) f_Book_42 rfl rfl ?_
  refine xJ.iconst (v := 3) (o_Book_goBack 23 rfl) (by decide) ?_
  refine xJ.iaload (o_Book_goBack 24 rfl) rfl h.1 ?_
  replace h := h.2
  refine xJ.putI (o_Book_goBack 25 rfl) f_Book_45 rfl rfl rfl ?_
  replace h := h _ rfl
  refine xJ.aload_n (o_Book_goBack 26 rfl) rfl ?_
  refine xJ.aload_n (o_Book_goBack 27 rfl) rfl ?_
  refine xJ.getfield (o_Book_goBack 28 rfl) f_Book_42 rfl rfl ?_
  refine xJ.iconst (v := 4) (o_Book_goBack 29 rfl) (by decide) ?_
  refine xJ.iaload (o_Book_goBack 30 rfl) rfl h.1 ?_
  replace h := h.2
  refine xJ.putI (o_Book_goBack 31 rfl) f_Book_58 rfl rfl rfl ?_
  replace h := h _ rfl
  exact xJ.return_ (o_Book_goBack 32 rfl) rfl h
def wp_Book_hasRoomForName (Q : xO → xS → Prop) (σ : xS) (a1 : Int32) : Prop :=
  ((500 ≤ (xi σ 5 4) → Q (.inl (some (.int 0))) σ) ∧ (¬ 500 ≤ (xi σ 5 4) → (vp_in (xi σ 5 4) 501 ∧ (((65536 - (xi σ 17 (xi σ 5 4).toNatClampNeg)) < a1 → Q (.inl (some (.int 0))) σ) ∧ (¬ (65536 - (xi σ 17 (xi σ 5 4).toNatClampNeg)) < a1 → Q (.inl (some (.int 1))) σ)))))
set_option maxRecDepth 20000 in
theorem s_Book_hasRoomForName {γ : xG1} {d : Nat} {Q : xO → xS → Prop} {σ : xS} {a1 : Int32} (h : wp_Book_hasRoomForName Q σ a1) : xM (SHP, γ) Y_Book_hasRoomForName (d + 0) [.ref 5, .int a1] σ Q := by
  refine xM.of (by decide) (Nat.le_of_ble_eq_true rfl) ?_
  refine xJ.aload_n (o_Book_hasRoomForName 0 rfl) rfl ?_
  refine xJ.getfield (o_Book_hasRoomForName 1 rfl) f_Book_55 rfl rfl ?_
  refine xJ.sipush (v := 500) (o_Book_hasRoomForName 2 rfl) (by decide) ?_
  refine xJ.icmp_ge (tgt := 30) (o_Book_hasRoomForName 3 rfl) (by decide) (fun z => ?_) (fun z => ?_)
  · replace h := h.1 z
    refine xJ.iconst (v := 0) (o_Book_hasRoomForName 15 rfl) (by decide) ?_
    exact xJ.zreturn (o_Book_hasRoomForName 16 rfl) rfl (Or.inl rfl) h
  · replace h := h.2 z
    refine xJ.iload_n (o_Book_hasRoomForName 4 rfl) rfl ?_
    refine xJ.ldc (v := 65536) (o_Book_hasRoomForName 5 rfl) k_Book_18 ?_
    refine xJ.aload_n (o_Book_hasRoomForName 6 rfl) rfl ?_
    refine xJ.getfield (o_Book_hasRoomForName 7 rfl) f_Book_23 rfl rfl ?_
    refine xJ.aload_n (o_Book_hasRoomForName 8 rfl) rfl ?_
    refine xJ.getfield (o_Book_hasRoomForName 9 rfl) f_Book_55 rfl rfl ?_
    refine xJ.iaload (o_Book_hasRoomForName 10 rfl) rfl h.1 ?_
    replace h := h.2
    refine xJ.isub (o_Book_hasRoomForName 11 rfl) ?_
    refine xJ.icmp_gt (tgt := 30) (o_Book_hasRoomForName 12 rfl) (by decide) (fun z => ?_) (fun z => ?_)
    · replace h := h.1 z
      refine xJ.iconst (v := 0) (o_Book_hasRoomForName 15 rfl) (by decide) ?_
      exact xJ.zreturn (o_Book_hasRoomForName 16 rfl) rfl (Or.inl rfl) h
    · replace h := h.2 z
      refine xJ.iconst (v := 1) (o_Book_hasRoomForName 13 rfl) (by decide) ?_
      refine xJ.goto (tgt := 31) (o_Book_hasRoomForName 14 rfl) (by decide) ?_
      exact xJ.zreturn (o_Book_hasRoomForName 16 rfl) rfl (Or.inr rfl) h
def wp_Book_addThing (Q : xO → xS → Prop) (σ : xS) (a1 : Int32) : Prop :=
  (vp_in a1 2000 ∧ (∀ s1 : xS, s1 = xpi σ 11 a1.toNatClampNeg (xi σ 5 8) → (vp_in (xi s1 5 8) 500 ∧ (∀ s2 : xS, s2 = xpi s1 19 (xi s1 5 8).toNatClampNeg a1 → (vp_in (xi s2 5 8) 500 ∧ (∀ s3 : xS, s3 = xpi s2 20 (xi s2 5 8).toNatClampNeg (xi s2 5 4) → (vp_in (xi s3 5 8) 501 ∧ (vp_in a1 2000 ∧ wp_Sorts_size (xqi (fun r5 u4 => (vp_in ((xi s3 5 8) + 1) 501 ∧ (∀ s6 : xS, s6 = xpi u4 21 ((xi s3 5 8) + 1).toNatClampNeg ((xi s3 21 (xi s3 5 8).toNatClampNeg) + r5) → (∀ s7 : xS, s7 = xpi s6 5 8 ((xi s6 5 8) + 1) → Q (.inl none) s7)))) (fun n u => Q (.inr n) u)) s3 (xi s3 8 a1.toNatClampNeg)))))))))
set_option maxRecDepth 20000 in
theorem s_Book_addThing {γ : xG1} {d : Nat} {Q : xO → xS → Prop} {σ : xS} {a1 : Int32} (h : wp_Book_addThing Q σ a1) : xM (SHP, γ) Y_Book_addThing (d + 1) [.ref 5, .int a1] σ Q := by
  refine xM.of (by decide) (Nat.le_of_ble_eq_true rfl) ?_
  refine xJ.aload_n (o_Book_addThing 0 rfl) rfl ?_
  refine xJ.getfield (o_Book_addThing 1 rfl) f_Book_12 rfl rfl ?_
  refine xJ.getfield (o_Book_addThing 2 rfl) f_Book_66 rfl rfl ?_
  refine xJ.iload_n (o_Book_addThing 3 rfl) rfl ?_
  refine xJ.aload_n (o_Book_addThing 4 rfl) rfl ?_
  refine xJ.getfield (o_Book_addThing 5 rfl) f_Book_45 rfl rfl ?_
  refine xJ.iastore (o_Book_addThing 6 rfl) rfl h.1 ?_
  replace h := h.2
  replace h := h _ rfl
  refine xJ.aload_n (o_Book_addThing 7 rfl) rfl ?_
  refine xJ.getfield (o_Book_addThing 8 rfl) f_Book_30 rfl rfl ?_
  refine xJ.aload_n (o_Book_addThing 9 rfl) rfl ?_
  refine xJ.getfield (o_Book_addThing 10 rfl) f_Book_45 rfl rfl ?_
  refine xJ.iload_n (o_Book_addThing 11 rfl) rfl ?_
  refine xJ.iastore (o_Book_addThing 12 rfl) rfl h.1 ?_
  replace h := h.2
  replace h := h _ rfl
  refine xJ.aload_n (o_Book_addThing 13 rfl) rfl ?_
  refine xJ.getfield (o_Book_addThing 14 rfl) f_Book_33 rfl rfl ?_
  refine xJ.aload_n (o_Book_addThing 15 rfl) rfl ?_
  refine xJ.getfield (o_Book_addThing 16 rfl) f_Book_45 rfl rfl ?_
  refine xJ.aload_n (o_Book_addThing 17 rfl) rfl ?_
  refine xJ.getfield (o_Book_addThing 18 rfl) f_Book_55 rfl rfl ?_
  refine xJ.iastore (o_Book_addThing 19 rfl) rfl h.1 ?_
  replace h := h.2
  replace h := h _ rfl
  refine xJ.aload_n (o_Book_addThing 20 rfl) rfl ?_
  refine xJ.getfield (o_Book_addThing 21 rfl) f_Book_36 rfl rfl ?_
  refine xJ.aload_n (o_Book_addThing 22 rfl) rfl ?_
  refine xJ.getfield (o_Book_addThing 23 rfl) f_Book_45 rfl rfl ?_
  refine xJ.iconst (v := 1) (o_Book_addThing 24 rfl) (by decide) ?_
  refine xJ.iadd (o_Book_addThing 25 rfl) ?_
  refine xJ.aload_n (o_Book_addThing 26 rfl) rfl ?_
  refine xJ.getfield (o_Book_addThing 27 rfl) f_Book_36 rfl rfl ?_
  refine xJ.aload_n (o_Book_addThing 28 rfl) rfl ?_
  refine xJ.getfield (o_Book_addThing 29 rfl) f_Book_45 rfl rfl ?_
  refine xJ.iaload (o_Book_addThing 30 rfl) rfl h.1 ?_
  replace h := h.2
  refine xJ.aload_n (o_Book_addThing 31 rfl) rfl ?_
  refine xJ.getfield (o_Book_addThing 32 rfl) f_Book_12 rfl rfl ?_
  refine xJ.getfield (o_Book_addThing 33 rfl) f_Book_69 rfl rfl ?_
  refine xJ.iload_n (o_Book_addThing 34 rfl) rfl ?_
  refine xJ.iaload (o_Book_addThing 35 rfl) rfl h.1 ?_
  replace h := h.2
  refine xJ.callS (Y' := Y_Sorts_size) (o_Book_addThing 36 rfl) m_Book_72 y_Sorts_size st_Sorts_size (s_Sorts_size h) rfl rfl (Nat.le_of_ble_eq_true rfl) (fun _ hx => by cases hx) (fun v u q => ?_) (fun n u q => q)
  obtain ⟨r, rfl, h⟩ := xqi_get q
  refine xJ.iadd (o_Book_addThing 37 rfl) ?_
  refine xJ.iastore (o_Book_addThing 38 rfl) rfl h.1 ?_
  replace h := h.2
  replace h := h _ rfl
  refine xJ.aload_n (o_Book_addThing 39 rfl) rfl ?_
  refine xJ.dup (o_Book_addThing 40 rfl) rfl ?_
  refine xJ.getfield (o_Book_addThing 41 rfl) f_Book_45 rfl rfl ?_
  refine xJ.iconst (v := 1) (o_Book_addThing 42 rfl) (by decide) ?_
  refine xJ.iadd (o_Book_addThing 43 rfl) ?_
  refine xJ.putI (o_Book_addThing 44 rfl) f_Book_45 rfl rfl rfl ?_
  replace h := h _ rfl
  exact xJ.return_ (o_Book_addThing 45 rfl) rfl h
