/-! the goals in their order -/
theorem cnt_cg {p p' : Nat → Bool} : ∀ n, (∀ i, i < n → p i = p' i) → cnt p n = cnt p' n
  | 0, _ => rfl
  | n + 1, h => by
    unfold cnt
    rw [cnt_cg n (fun i hi => h i (by omega)), h n (by omega)]
theorem cnt_1 {p p' : Nat → Bool} {b : Nat} : ∀ n, b < n → (∀ i, i < n → i ≠ b → p i = p' i) → p b = false → p' b = true → cnt p' n = cnt p n + 1
  | 0, hb, _, _, _ => absurd hb (by omega)
  | n + 1, hb, h, h1, h2 => by
    unfold cnt
    by_cases e : b = n
    · subst e
      rw [cnt_cg b (fun i hi => h i (by omega) (by omega)), h1, h2]
      simp
    · rw [cnt_1 n (by omega) (fun i hi => h i (by omega)) h1 h2, h n (by omega) (by omega)]
      omega
noncomputable def tzf (D : Nat → Nat) (a : Nat) : Nat := (tz_le (nI (D a))).choose
theorem tzf_le (D : Nat → Nat) (a : Nat) : tzf D a ≤ 32 := (tz_le (nI (D a))).choose_spec.1
theorem tzf_e (D : Nat → Nat) (a : Nat) : tzI (nI (D a)) = nI (tzf D a) := (tz_le (nI (D a))).choose_spec.2
def onlyG (σ σ' : xS) : Prop := (∀ a b, a ≠ 32 → ¬ (a = 30 ∧ b = 7) → xi σ' a b = xi σ a b) ∧ (∀ a b, xl σ' a b = xl σ a b) ∧ xb σ' = xb σ
theorem onlyG.refl (σ : xS) : onlyG σ σ := ⟨fun _ _ _ _ => rfl, fun _ _ => rfl, rfl⟩
theorem onlyG.trans {σ σ' σ2 : xS} (h : onlyG σ σ') (h2 : onlyG σ' σ2) : onlyG σ σ2 := ⟨fun a b q1 q2 => (h2.1 a b q1 q2).trans (h.1 a b q1 q2), fun a b => (h2.2.1 a b).trans (h.2.1 a b), h2.2.2.trans h.2.2⟩
theorem onlyG.rc {B : Bk} {σ σ' : xS} (h : onlyG σ σ') (r : RC B σ) : RC B σ' := r.keep (fun a b _ _ => h.1 a b (by omega) (by omega)) (fun a b h1 h2 => h.2.1 a b)
def gSt (σ : xS) (n : Nat) (G : Nat → Nat) : Prop := xi σ 30 7 = nI n ∧ ∀ j, j < n → xi σ 32 j = nI (G j)
def supI : Option Nat → Int32
  | none => -1
  | some t => nI t
def isGoal (B : Bk) (sup : Option Nat) (a : Nat) : Prop := (∃ i, i < bas B ∧ bsd B i = a) ∨ sup = some a
section GOAL
variable {B : Bk} {σ : xS} {Q : xO → xS → Prop} {D G : Nat → Nat} {sup : Option Nat}
theorem s_addGoal {a z n : Nat} (g : gSt σ n G) (ha : a < 2000) (hz : z ≤ 32) (hn : n ≤ 501) (hd : xi σ 31 a = nI (D a)) (k1 : tzf D a ≠ z → Q (.inl none) σ) (k2 : tzf D a = z → n < 501 ∧ ∀ σ', onlyG σ σ' → gSt σ' (n + 1) (fun j => if j = n then a else G j) → Q (.inl none) σ') : wp_Search_addGoal Q σ (nI a) (nI z) := by
  have tl := tzf_le D a
  unfold wp_Search_addGoal
  simp (disch := omega) only [i32_lit, l64_lit, lc_eq, lc_ge, lc_le, lc_gt, lc_lt, jL_inj, jL_add, jL_sub, jL_mul, jL_neg, jL_and, jL_or, jL_xor, jL_mone, BitVec.xor_allOnes, nI_clamp, nI_ltI, nI_leI, nI_eq, nI_1, nI_add, nI_sub, nI_addm, nI_mul, vp_in_n, xi_pi, xi_pl, xl_pi, xl_pl, xb_pi, xb_pl, xqi_i, xql_l, xqv_v, xqi_e, xql_e, xqv_e, forall_eq, true_and, and_true, hd]
  refine p_tz ?_
  rw [xqi_i, tzf_e]
  have e501 : (Int32.ofNat 501) = nI 501 := rfl
  rw [e501]
  simp (disch := omega) only [i32_lit, l64_lit, lc_eq, lc_ge, lc_le, lc_gt, lc_lt, jL_inj, jL_add, jL_sub, jL_mul, jL_neg, jL_and, jL_or, jL_xor, jL_mone, BitVec.xor_allOnes, nI_clamp, nI_ltI, nI_leI, nI_eq, nI_1, nI_add, nI_sub, nI_addm, nI_mul, vp_in_n, xi_pi, xi_pl, xl_pi, xl_pl, xb_pi, xb_pl, xqi_i, xql_l, xqv_v, xqi_e, xql_e, xqv_e, forall_eq, true_and, and_true, g.1]
  refine ⟨fun e => k1 e, fun e => ?_⟩
  obtain ⟨n1, k2⟩ := k2 e
  refine ⟨fun q => absurd q (by omega), fun q => ?_⟩
  simp (disch := omega) only [i32_lit, l64_lit, lc_eq, lc_ge, lc_le, lc_gt, lc_lt, jL_inj, jL_add, jL_sub, jL_mul, jL_neg, jL_and, jL_or, jL_xor, jL_mone, BitVec.xor_allOnes, nI_clamp, nI_ltI, nI_leI, nI_eq, nI_1, nI_add, nI_sub, nI_addm, nI_mul, vp_in_n, xi_pi, xi_pl, xl_pi, xl_pl, xb_pi, xb_pl, xqi_i, xql_l, xqv_v, xqi_e, xql_e, xqv_e, forall_eq, true_and, and_true]
  simp (disch := omega) only [show (30 : Nat) ≠ 32 by decide, false_and, if_false, g.1, nI_1]
  refine k2 _ ⟨fun c d h1 h2 => ?_, fun _ _ => rfl, rfl⟩ ⟨?_, fun j hj => ?_⟩
  · rw [xi_pi, if_neg (fun q => h2 q), xi_pi, if_neg (fun q => h1 q.1)]
  · rw [xi_pi, if_pos ⟨rfl, rfl⟩]
    exact nI_add n 1
  · rw [xi_pi, if_neg (by omega), xi_pi]
    show _ = nI (if j = n then a else G j)
    by_cases c : j = n
    · rw [if_pos ⟨rfl, c⟩, if_pos c]
    · rw [if_neg (fun q => c q.2), if_neg c]
      exact g.2 j (by omega)
noncomputable def supc (D : Nat → Nat) (sup : Option Nat) (s : Nat) : Nat := match sup with
  | none => 0
  | some t => if s ≤ tzf D t then 1 else 0
theorem supc_s (D : Nat → Nat) (t s : Nat) : supc D (some t) s = if s ≤ tzf D t then 1 else 0 := rfl
theorem supc_n (D : Nat → Nat) (s : Nat) : supc D none s = 0 := rfl
theorem s_order (h : RC B σ) (w : wfB B) (hD : ∀ t, t < bma B → xi σ 31 t = nI (D t)) (hs : ∀ t, sup = some t → t < bma B ∧ bso B t = 0)
    (k : ∀ σ' n G, onlyG σ σ' → gSt σ' n G → n ≤ 501 → (∀ j, j < n → G j < bma B ∧ bso B (G j) = 0 ∧ isGoal B sup (G j)) → (∀ a, isGoal B sup a → ∃ j, j < n ∧ G j = a) → Q (.inl none) σ') : wp_Search_orderGoals Q σ (supI sup) := by
  have hm := wf_ma w
  have ha5 : bas B ≤ 500 := w.1.2.2.2.2.1
  have hsd : ∀ i, i < bas B → bsd B i < bma B ∧ bso B (bsd B i) = 0 := w.2.2.2.2.2.2
  unfold wp_Search_orderGoals
  intro s1 e1
  have o1 : onlyG σ s1 := by rw [e1]; exact ⟨fun c d h1 h2 => by rw [xi_pi, if_neg (fun q => h2 q)], fun _ _ => rfl, rfl⟩
  have g1 : gSt s1 0 (fun _ => 0) := ⟨by rw [e1, xi_pi, if_pos ⟨rfl, rfl⟩]; rfl, fun j hj => absurd hj (by omega)⟩
  have sc1 : ∀ s, supc D sup s ≤ 1 := fun s => by unfold supc; split <;> (try split) <;> omega
  have key := loop_m (σ := Nat × xS) (fun n s => w_Search_orderGoals_8 Q n (supI sup) (nI s.1 + -nI 1) s.2) (fun s => s.1 ≤ 33 ∧ onlyG σ s.2 ∧ ∃ n G, gSt s.2 n G ∧ n = cnt (fun i => decide (s.1 ≤ tzf D (bsd B i))) (bas B) + supc D sup s.1 ∧ (∀ j, j < n → isGoal B sup (G j)) ∧ ∀ a, isGoal B sup a → s.1 ≤ tzf D a → ∃ j, j < n ∧ G j = a) (fun s => s.1) (fun n s hI hs2 => ?_) (33, s1) ⟨Nat.le_refl _, o1, 0, _, g1, ?_, fun j hj => absurd hj (by omega), fun a _ q => ?_⟩
  · obtain ⟨n, hn⟩ := key
    have hn : w_Search_orderGoals_8 Q n (supI sup) (nI 33 + -nI 1) s1 := hn
    rw [show nI 33 + -nI 1 = 32 by decide] at hn
    exact ⟨n, hn⟩
  · obtain ⟨h0, h1, c, G, h2, h3, h4, h5⟩ := hI
    have r := h1.rc h
    have c1 := sc1 s.1
    have cl := cnt_le (fun i => decide (s.1 ≤ tzf D (bsd B i))) (bas B)
    show w_Search_orderGoals_8 Q (n + 1) (supI sup) (nI s.1 + -nI 1) s.2
    unfold w_Search_orderGoals_8
    simp (disch := omega) only [i32_lit, l64_lit, lc_eq, lc_ge, lc_le, lc_gt, lc_lt, jL_inj, jL_add, jL_sub, jL_mul, jL_neg, jL_and, jL_or, jL_xor, jL_mone, BitVec.xor_allOnes, nI_clamp, nI_ltI, nI_leI, nI_eq, nI_1, nI_add, nI_sub, nI_addm, nI_mul, vp_in_n, xi_pi, xi_pl, xl_pi, xl_pl, xb_pi, xb_pl, xqi_i, xql_l, xqv_v, xqi_e, xql_e, xqv_e, forall_eq, true_and, and_true, nI_m1lt]
    refine ⟨fun q => ?_, fun q => ?_⟩
    · refine k s.2 c G h1 h2 (by omega) (fun j hj => ?_) (fun a ha => h5 a ha (by omega))
      have hg := h4 j hj
      rcases hg with ⟨i, i1, i2⟩ | hg
      · rw [← i2]; exact ⟨(hsd i i1).1, (hsd i i1).2, Or.inl ⟨i, i1, rfl⟩⟩
      · exact ⟨(hs _ hg).1, (hs _ hg).2, Or.inr hg⟩
    · have es : nI s.1 + -nI 1 = nI (s.1 - 1) := nI_addm (by omega)
      rw [es]
      -- the end of a round
      have fin2 : ∀ (s2 : xS) (c2 : Nat) (G2 : Nat → Nat), onlyG σ s2 → gSt s2 c2 G2 → c2 = cnt (fun i => decide (s.1 - 1 ≤ tzf D (bsd B i))) (bas B) + supc D sup (s.1 - 1) → (∀ j, j < c2 → isGoal B sup (G2 j)) → (∀ a, isGoal B sup a → s.1 - 1 ≤ tzf D a → ∃ j, j < c2 ∧ G2 j = a) → w_Search_orderGoals_8 Q n (supI sup) (nI (s.1 - 1) + -nI 1) s2 := by
        intro s2 c2 G2 a1 a2 a3 a4 a5
        exact hs2 (s.1 - 1, s2) ⟨by show s.1 - 1 ≤ 33; omega, a1, c2, G2, a2, a3, a4, a5⟩ (by show s.1 - 1 < s.1; omega)
      have key2 := loop_i (σ := xS) (fun m i s2 => w_Search_orderGoals_14 Q (w_Search_orderGoals_8 Q n) m (supI sup) (nI (s.1 - 1)) (nI i) s2) (fun i s2 => onlyG σ s2 ∧ ∃ c G, gSt s2 c G ∧ c = cnt (fun b => decide (s.1 ≤ tzf D (bsd B b)) || (decide (b < i) && decide (tzf D (bsd B b) = s.1 - 1))) (bas B) + supc D sup s.1 ∧ (∀ j, j < c → isGoal B sup (G j)) ∧ (∀ a, isGoal B sup a → s.1 ≤ tzf D a → ∃ j, j < c ∧ G j = a) ∧ ∀ b, b < i → tzf D (bsd B b) = s.1 - 1 → ∃ j, j < c ∧ G j = bsd B b) (bas B) (fun m s2 hO => ?_) (fun m i s2 hi hO hs3 => ?_)
      · refine ⟨_, key2 (bas B + 1) 0 s.2 (by omega) (by omega) ⟨h1, c, G, h2, ?_, h4, h5, fun b hb => absurd hb (by omega)⟩⟩
        rw [h3]
        congr 1
        exact cnt_cg _ (fun i _ => by simp)
      · obtain ⟨p1, c2, G2, p2, p3, p4, p5, p6⟩ := hO
        have r2 := p1.rc h
        have cl2 := cnt_le (fun b => decide (s.1 ≤ tzf D (bsd B b)) || (decide (b < bas B) && decide (tzf D (bsd B b) = s.1 - 1))) (bas B)
        have ec : cnt (fun b => decide (s.1 ≤ tzf D (bsd B b)) || (decide (b < bas B) && decide (tzf D (bsd B b) = s.1 - 1))) (bas B) = cnt (fun i => decide (s.1 - 1 ≤ tzf D (bsd B i))) (bas B) := cnt_cg _ (fun b hb => by
          rw [decide_eq_true hb, Bool.true_and, ← Bool.decide_or]
          exact decide_eq_decide.mpr ⟨fun q => by omega, fun q => by omega⟩)
        rw [ec] at p3 cl2
        have all : ∀ a, isGoal B sup a → s.1 - 1 ≤ tzf D a → sup ≠ some a → ∃ j, j < c2 ∧ G2 j = a := fun a ga ta na => by
          by_cases e : s.1 ≤ tzf D a
          · exact p5 a ga e
          · obtain ⟨i, i1, i2⟩ := ga.resolve_right na
            rw [← i2] at ta e ⊢
            exact p6 i i1 (by omega)
        unfold w_Search_orderGoals_14
        simp (disch := omega) only [i32_lit, l64_lit, lc_eq, lc_ge, lc_le, lc_gt, lc_lt, jL_inj, jL_add, jL_sub, jL_mul, jL_neg, jL_and, jL_or, jL_xor, jL_mone, BitVec.xor_allOnes, nI_clamp, nI_ltI, nI_leI, nI_eq, nI_1, nI_add, nI_sub, nI_addm, nI_mul, vp_in_n, xi_pi, xi_pl, xl_pi, xl_pl, xb_pi, xb_pl, xqi_i, xql_l, xqv_v, xqi_e, xql_e, xqv_e, forall_eq, true_and, and_true, r2.1.2.2.2.2]
        refine ⟨fun _ => ⟨fun e => ?_, fun e => ?_⟩, fun z => absurd (Nat.le_refl _) z⟩
        · have sn : sup = none := by
            cases sup with
            | none => rfl
            | some t =>
              have e : nI t = -1 := e
              have := (nI_ne_m1 (show t < 2147483648 by have := (hs t rfl).1; omega))
              rw [this] at e
              exact e.elim
          exact fin2 s2 c2 G2 p1 p2 (by rw [p3, sn]; rfl) p4 (fun a ga ta => all a ga ta (by rw [sn]; intro q; cases q))
        · cases hsup : sup with
          | none => rw [hsup] at e; exact absurd rfl e
          | some t =>
            have st := hs t hsup
            have dt : xi s2 31 t = nI (D t) := (p1.1 31 t (by decide) (fun q => absurd q.1 (by decide))).trans (hD t st.1)
            show wp_Search_addGoal _ s2 (nI t) (nI (s.1 - 1))
            refine s_addGoal p2 (by omega) (by omega) (by have := sc1 s.1; omega) dt (fun q => ?_) (fun q => ?_)
            · rw [xqv_v]
              rw [← hsup]
              refine fin2 s2 c2 G2 p1 p2 ?_ p4 (fun a ga ta => ?_)
              · rw [p3, hsup, supc_s, supc_s]
                have : (s.1 ≤ tzf D t) = (s.1 - 1 ≤ tzf D t) := propext ⟨fun q => by omega, fun q => by omega⟩
                simp only [this]
              · by_cases e2 : sup = some a
                · rw [hsup] at e2; cases e2
                  exact p5 t ga (by omega)
                · exact all a ga ta e2
            · refine ⟨?_, fun σ' o' g' => ?_⟩
              · have : supc D sup s.1 = 0 := by rw [hsup, supc_s, if_neg (by omega)]
                omega
              · rw [xqv_v]
                rw [← hsup]
                refine fin2 σ' (c2 + 1) _ (p1.trans o') g' ?_ (fun j hj => ?_) (fun a ga ta => ?_)
                · rw [p3, hsup, supc_s, supc_s, if_neg (by omega), if_pos (by omega)]
                · show isGoal B sup (if j = c2 then t else G2 j)
                  by_cases e2 : j = c2
                  · rw [if_pos e2]; exact Or.inr hsup
                  · rw [if_neg e2]; exact p4 j (by omega)
                · by_cases e2 : sup = some a
                  · rw [hsup] at e2; cases e2
                    exact ⟨c2, by omega, if_pos rfl⟩
                  · obtain ⟨j, j1, j2⟩ := all a ga ta e2
                    exact ⟨j, by omega, by show (if j = c2 then t else G2 j) = a; rw [if_neg (by omega)]; exact j2⟩
      · obtain ⟨p1, c2, G2, p2, p3, p4, p5, p6⟩ := hO
        have r2 := p1.rc h
        have sdi := hsd i hi
        have cl2 := cnt_le (fun b => decide (s.1 ≤ tzf D (bsd B b)) || (decide (b < i) && decide (tzf D (bsd B b) = s.1 - 1))) (bas B)
        have di : xi s2 31 (bsd B i) = nI (D (bsd B i)) := (p1.1 31 _ (by decide) (fun q => absurd q.1 (by decide))).trans (hD _ sdi.1)
        unfold w_Search_orderGoals_14
        simp (disch := omega) only [i32_lit, l64_lit, lc_eq, lc_ge, lc_le, lc_gt, lc_lt, jL_inj, jL_add, jL_sub, jL_mul, jL_neg, jL_and, jL_or, jL_xor, jL_mone, BitVec.xor_allOnes, nI_clamp, nI_ltI, nI_leI, nI_eq, nI_1, nI_add, nI_sub, nI_addm, nI_mul, vp_in_n, xi_pi, xi_pl, xl_pi, xl_pl, xb_pi, xb_pl, xqi_i, xql_l, xqv_v, xqi_e, xql_e, xqv_e, forall_eq, true_and, and_true, r2.1.2.2.2.2, rc_sd r2]
        refine ⟨fun z => absurd z (by omega), fun _ => ?_⟩
        refine s_addGoal p2 (by omega) (by omega) (by have := sc1 s.1; omega) di (fun q => ?_) (fun q => ?_)
        · rw [xqv_v]
          refine hs3 s2 ⟨p1, c2, G2, p2, ?_, p4, p5, fun b hb tb => ?_⟩
          · rw [p3]
            congr 1
            refine cnt_cg _ (fun b hb => ?_)
            by_cases e : b = i
            · rw [e, decide_eq_false (show ¬ tzf D (bsd B i) = s.1 - 1 from q)]; simp
            · rw [show decide (b < i) = decide (b < i + 1) from decide_eq_decide.mpr ⟨fun q => by omega, fun q => by omega⟩]
          · by_cases e : b = i
            · rw [e] at tb; exact absurd tb q
            · exact p6 b (by omega) tb
        · have c3 := cnt_1 (p := fun b => decide (s.1 ≤ tzf D (bsd B b)) || (decide (b < i) && decide (tzf D (bsd B b) = s.1 - 1))) (p' := fun b => decide (s.1 ≤ tzf D (bsd B b)) || (decide (b < i + 1) && decide (tzf D (bsd B b) = s.1 - 1))) (b := i) (bas B) hi (fun b hb ne => by
              rw [show decide (b < i) = decide (b < i + 1) from decide_eq_decide.mpr ⟨fun q => by omega, fun q => by omega⟩]) (by
              rw [decide_eq_false (show ¬ s.1 ≤ tzf D (bsd B i) by omega), decide_eq_false (show ¬ i < i by omega)]; rfl) (by
              rw [decide_eq_true (show i < i + 1 by omega), decide_eq_true q]; simp)
          have cl3 := cnt_le (fun b => decide (s.1 ≤ tzf D (bsd B b)) || (decide (b < i + 1) && decide (tzf D (bsd B b) = s.1 - 1))) (bas B)
          refine ⟨by have := sc1 s.1; omega, fun σ' o' g' => ?_⟩
          rw [xqv_v]
          refine hs3 σ' ⟨p1.trans o', c2 + 1, _, g', by rw [p3, c3]; omega, fun j hj => ?_, fun a ga ta => ?_, fun b hb tb => ?_⟩
          · show isGoal B sup (if j = c2 then bsd B i else G2 j)
            by_cases e2 : j = c2
            · rw [if_pos e2]; exact Or.inl ⟨i, hi, rfl⟩
            · rw [if_neg e2]; exact p4 j (by omega)
          · obtain ⟨j, j1, j2⟩ := p5 a ga ta
            exact ⟨j, by omega, by show (if j = c2 then bsd B i else G2 j) = a; rw [if_neg (by omega)]; exact j2⟩
          · by_cases e : b = i
            · rw [e]; exact ⟨c2, by omega, if_pos rfl⟩
            · obtain ⟨j, j1, j2⟩ := p6 b (by omega) tb
              exact ⟨j, by omega, by show (if j = c2 then bsd B i else G2 j) = _; rw [if_neg (by omega)]; exact j2⟩
  · have : cnt (fun i => decide (33 ≤ tzf D (bsd B i))) (bas B) = cnt (fun _ => false) (bas B) := cnt_cg _ (fun i _ => decide_eq_false (by have := tzf_le D (bsd B i); omega))
    have z0 : ∀ n, cnt (fun _ => false) n = 0 := fun n => by
      induction n with
      | zero => rfl
      | succ n ih => unfold cnt; rw [ih]; rfl
    show 0 = cnt (fun i => decide (33 ≤ tzf D (bsd B i))) (bas B) + supc D sup 33
    rw [this, z0]
    cases sup with
    | none => rfl
    | some t => rw [supc_s, if_neg (by have := tzf_le D t; omega)]
  · have q : 33 ≤ tzf D a := q
    have := tzf_le D a
    omega
end GOAL
