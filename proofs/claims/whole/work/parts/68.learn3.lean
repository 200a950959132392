section LRN3
variable {B : Bk} {σ : xS} {Q : xO → xS → Prop} {t mk li J : Nat} {A : Nat → BitVec 64} {bits : BitVec 64}
theorem difB.mono {A A' v : Nat → BitVec 64} {a b : Nat} (h : difB A v a b) (g : ∀ a, sbs (A a) (A' a)) : difB A' v a b := by
  obtain ⟨j, h1, h2, h3⟩ := h
  exact ⟨j, (g a).b h1, (g b).b h2, h3⟩
theorem l_distinct (L : lnS B li σ A mk) (w : wfB B) (hS : bsz B ≤ 16) (ht : t < bma B) (hl : t ≤ li) (W : wrt B J σ t) (z : bop B t = 20) (k : fin B li t σ A Q (fun A' => stOK B J A' t)) : wp_Learner_explainDistinct Q σ (nI t) := by
  have hm := wf_ma w
  obtain ⟨f1, f2, f3⟩ := wf_fi w ht
  have y := ty_20 (wf_ty w ht) z
  have ys : ∀ i, bfi B t ≤ i → i < bfi B (t + 1) → bso B (bar B i) = bso B (bar B (bfi B t)) := fun i i1 i2 => by
    have := y.2.1 (i - bfi B t) (by omega)
    rw [show bfi B t + (i - bfi B t) = i by omega] at this
    exact this
  have vt : ev B J t = bit (∀ i, i < (bfi B (t + 1) - bfi B t) → ∀ j, j < i → evL B J t (bar B (bfi B t + i)) ≠ evL B J t (bar B (bfi B t + j))) &&& 1#64 := by rw [ev_ap w ht (by omega) (by omega), ap_20 z, bful_0 y.2.2]
  unfold wp_Learner_explainDistinct
  simp (disch := omega) only [i32_lit, l64_lit, lc_eq, lc_ge, lc_le, lc_gt, lc_lt, jL_inj, jL_add, jL_sub, jL_mul, jL_neg, jL_and, jL_or, jL_xor, jL_mone, BitVec.xor_allOnes, nI_clamp, nI_ltI, nI_leI, nI_eq, nI_1, nI_add, nI_sub, nI_addm, nI_mul, vp_in_n, xi_pi, xi_pl, xl_pi, xl_pl, xb_pi, xb_pl, xqi_i, xql_l, xqv_v, xqi_e, xql_e, xqv_e, forall_eq, true_and, and_true, rc_fi L.1]
  have key := loop_i (σ := xS) (fun n i s => w_Learner_explainDistinct_12 Q n (nI t) (nI i) s) (fun i s => bfi B t + 1 ≤ i ∧ onlyA σ s ∧ ∃ A' mk', lnS B li s A' mk' ∧ gro B t A A' ∧ (∀ a, bfi B t ≤ a → a < i → ∀ b, bfi B t ≤ b → b < a → ev B J (bar B a) ≠ ev B J (bar B b) ∧ (ev B J t ≠ 0#64 → difB A' (ev B J) (bar B a) (bar B b)))) (bfi B (t + 1)) (fun n s hI => ?_) (fun n i s hi hI hs => ?_)
  · exact ⟨_, key (bfi B (t + 1) - bfi B t + 1) (bfi B t + 1) σ (by omega) (by omega) ⟨Nat.le_refl _, onlyA.refl _, A, mk, L, gro.refl _ _ _, fun a a1 a2 b b1 b2 => absurd b2 (by omega)⟩⟩
  · obtain ⟨h0, h1, A', mk', h2, h3, h4⟩ := hI
    unfold w_Learner_explainDistinct_12
    simp (disch := omega) only [i32_lit, l64_lit, lc_eq, lc_ge, lc_le, lc_gt, lc_lt, jL_inj, jL_add, jL_sub, jL_mul, jL_neg, jL_and, jL_or, jL_xor, jL_mone, BitVec.xor_allOnes, nI_clamp, nI_ltI, nI_leI, nI_eq, nI_1, nI_add, nI_sub, nI_addm, nI_mul, vp_in_n, xi_pi, xi_pl, xl_pi, xl_pl, xb_pi, xb_pl, xqi_i, xql_l, xqv_v, xqi_e, xql_e, xqv_e, forall_eq, true_and, and_true, rc_fi h2.1]
    have t1 : ev B J t ≠ 0#64 := by
      rw [vt, bit_t]
      · decide
      · intro i hi j hj
        rw [evL_ar w ht hi, evL_ar w ht (by omega)]
        exact (h4 (bfi B t + i) (by omega) (by omega) (bfi B t + j) (by omega) (by omega)).1
    exact ⟨fun _ => k s A' mk' h1 h2 h3 (st_ds w ht (h2.2.2.2.2.2.2 t ht) z (Or.inr fun i hi j hj => (h4 (bfi B t + i) (by omega) (by omega) (bfi B t + j) (by omega) (by omega)).2 t1)), fun q => absurd (Nat.le_refl _) q⟩
  · obtain ⟨h0, h1, A', mk', h2, h3, h4⟩ := hI
    unfold w_Learner_explainDistinct_12
    simp (disch := omega) only [i32_lit, l64_lit, lc_eq, lc_ge, lc_le, lc_gt, lc_lt, jL_inj, jL_add, jL_sub, jL_mul, jL_neg, jL_and, jL_or, jL_xor, jL_mone, BitVec.xor_allOnes, nI_clamp, nI_ltI, nI_leI, nI_eq, nI_1, nI_add, nI_sub, nI_addm, nI_mul, vp_in_n, xi_pi, xi_pl, xl_pi, xl_pl, xb_pi, xb_pl, xqi_i, xql_l, xqv_v, xqi_e, xql_e, xqv_e, forall_eq, true_and, and_true, rc_fi h2.1]
    refine ⟨fun q => absurd q (by omega), fun _ => ?_⟩
    have key2 := loop_i (σ := xS) (fun m j s2 => w_Learner_explainDistinct_37 Q (w_Learner_explainDistinct_12 Q n) m (nI t) (nI i) (nI j) s2) (fun j s2 => bfi B t ≤ j ∧ onlyA σ s2 ∧ ∃ A' mk', lnS B li s2 A' mk' ∧ gro B t A A' ∧ (∀ a, bfi B t ≤ a → a < i → ∀ b, bfi B t ≤ b → b < a → ev B J (bar B a) ≠ ev B J (bar B b) ∧ (ev B J t ≠ 0#64 → difB A' (ev B J) (bar B a) (bar B b))) ∧ ∀ b, bfi B t ≤ b → b < j → ev B J (bar B i) ≠ ev B J (bar B b) ∧ (ev B J t ≠ 0#64 → difB A' (ev B J) (bar B i) (bar B b))) i (fun m s2 hO => ?_) (fun m j s2 hj hO hs2 => ?_)
    · exact ⟨_, key2 (i - bfi B t + 1) (bfi B t) s (by omega) (by omega) ⟨Nat.le_refl _, h1, A', mk', h2, h3, h4, fun b b1 b2 => absurd b2 (by omega)⟩⟩
    · obtain ⟨g0, g1, A2, mk2, g2, g3, g4, g5⟩ := hO
      unfold w_Learner_explainDistinct_37
      simp (disch := omega) only [i32_lit, l64_lit, lc_eq, lc_ge, lc_le, lc_gt, lc_lt, jL_inj, jL_add, jL_sub, jL_mul, jL_neg, jL_and, jL_or, jL_xor, jL_mone, BitVec.xor_allOnes, nI_clamp, nI_ltI, nI_leI, nI_eq, nI_1, nI_add, nI_sub, nI_addm, nI_mul, vp_in_n, xi_pi, xi_pl, xl_pi, xl_pl, xb_pi, xb_pl, xqi_i, xql_l, xqv_v, xqi_e, xql_e, xqv_e, forall_eq, true_and, and_true]
      refine ⟨fun _ => hs s2 ⟨by omega, g1, A2, mk2, g2, g3, fun a a1 a2 b b1 b2 => ?_⟩, fun q => absurd (Nat.le_refl _) q⟩
      by_cases e : a = i
      · subst e; exact g5 b b1 b2
      · exact g4 a a1 (by omega) b b1 b2
    · obtain ⟨g0, g1, A2, mk2, g2, g3, g4, g5⟩ := hO
      have Ws := W.keep g1
      unfold w_Learner_explainDistinct_37
      have i1 : bfi B t ≤ i := by omega
      have j2 : j < bfi B (t + 1) := by omega
      have il := wf_ar w ht i1 hi
      have jl := wf_ar w ht g0 j2
      simp (disch := omega) only [i32_lit, l64_lit, lc_eq, lc_ge, lc_le, lc_gt, lc_lt, jL_inj, jL_add, jL_sub, jL_mul, jL_neg, jL_and, jL_or, jL_xor, jL_mone, BitVec.xor_allOnes, nI_clamp, nI_ltI, nI_leI, nI_eq, nI_1, nI_add, nI_sub, nI_addm, nI_mul, vp_in_n, xi_pi, xi_pl, xl_pi, xl_pl, xb_pi, xb_pl, xqi_i, xql_l, xqv_v, xqi_e, xql_e, xqv_e, forall_eq, true_and, and_true, rc_ar g2.1, Ws.1, Ws.2 i i1 hi, Ws.2 j g0 j2, rc_fu g2.1]
      refine ⟨fun q => absurd q (by omega), fun _ => ⟨fun e0 => ⟨fun e => ?_, fun e => ?_⟩, fun e0 => ?_⟩⟩
      · refine hs2 s2 ⟨by omega, g1, A2, mk2, g2, g3, g4, fun b b1 b2 => ?_⟩
        by_cases c : b = j
        · subst c; exact ⟨e, fun n => absurd e0 n⟩
        · exact g5 b b1 (by omega)
      · refine l_ask g2 w hS ht i1 hi hl (sbs.refl _) (fun σ3 A3 mk3 o3 L3 r3 s3 => ?_)
        rw [xqv_v]
        simp (disch := omega) only [i32_lit, l64_lit, lc_eq, lc_ge, lc_le, lc_gt, lc_lt, jL_inj, jL_add, jL_sub, jL_mul, jL_neg, jL_and, jL_or, jL_xor, jL_mone, BitVec.xor_allOnes, nI_clamp, nI_ltI, nI_leI, nI_eq, nI_1, nI_add, nI_sub, nI_addm, nI_mul, vp_in_n, xi_pi, xi_pl, xl_pi, xl_pl, xb_pi, xb_pl, xqi_i, xql_l, xqv_v, xqi_e, xql_e, xqv_e, forall_eq, true_and, and_true, rc_fu L3.1]
        refine l_ask L3 w hS ht g0 j2 hl (sbs.refl _) (fun σ4 A4 mk4 o4 L4 r4 s4 => ?_)
        rw [xqv_v]
        refine k σ4 A4 mk4 (g1.trans (o3.trans o4)) L4 (g3.trans (r3.trans r4)) (st_ds w ht (L4.2.2.2.2.2.2 t ht) z (Or.inl ⟨i - bfi B t, by omega, j - bfi B t, by omega, ?_, ?_, ?_⟩))
        · rw [show bfi B t + (i - bfi B t) = i by omega, show bfi B t + (j - bfi B t) = j by omega]; exact e
        · rw [show bfi B t + (i - bfi B t) = i by omega]; exact s3.trans (r4.1 _)
        · rw [show bfi B t + (j - bfi B t) = j by omega]; exact s4
      · have ne : ev B J (bar B i) ≠ ev B J (bar B j) := by
          intro c
          apply e0
          rw [vt, bit_f]
          · decide
          · intro P
            have := P (i - bfi B t) (by omega) (j - bfi B t) (by omega)
            rw [evL_ar w ht (by omega), evL_ar w ht (by omega), show bfi B t + (i - bfi B t) = i by omega, show bfi B t + (j - bfi B t) = j by omega] at this
            exact this c
        refine l_difference g2 w hS ht hl Ws i1 hi g0 j2 ((ys i i1 hi).trans (ys j g0 j2).symm) ne (fun σ3 A3 mk3 o3 L3 r3 s3 => ?_)
        rw [xqv_v]
        refine hs2 σ3 ⟨by omega, g1.trans o3, A3, mk3, L3, g3.trans r3, fun a a1 a2 b b1 b2 => ⟨(g4 a a1 a2 b b1 b2).1, fun n => ((g4 a a1 a2 b b1 b2).2 n).mono r3.1⟩, fun b b1 b2 => ?_⟩
        by_cases c : b = j
        · subst c; exact ⟨ne, fun _ => s3⟩
        · exact ⟨(g5 b b1 (by omega)).1, fun n => ((g5 b b1 (by omega)).2 n).mono r3.1⟩
theorem l_ite (L : lnS B li σ A mk) (w : wfB B) (hS : bsz B ≤ 16) (ht : t < bma B) (hl : t ≤ li) (W : wrt B J σ t) (z : bop B t = 18) (k : fin B li t σ A Q (fun A' => stOK B J A' t)) : wp_Learner_explainIte Q σ (nI t) (nI (bar B (bfi B t))) (jL (A t)) := by
  have hm := wf_ma w
  obtain ⟨f1, f2, f3⟩ := wf_fi w ht
  have y := ty_18 (wf_ty w ht) z
  have l0 := wf_ar w ht (Nat.le_refl _) (show bfi B t < bfi B (t + 1) by omega)
  have hf := L.2.2.2.2.2.2 t ht
  unfold wp_Learner_explainIte
  simp (disch := omega) only [i32_lit, l64_lit, lc_eq, lc_ge, lc_le, lc_gt, lc_lt, jL_inj, jL_add, jL_sub, jL_mul, jL_neg, jL_and, jL_or, jL_xor, jL_mone, BitVec.xor_allOnes, nI_clamp, nI_ltI, nI_leI, nI_eq, nI_1, nI_add, nI_sub, nI_addm, nI_mul, vp_in_n, xi_pi, xi_pl, xl_pi, xl_pl, xb_pi, xb_pl, xqi_i, xql_l, xqv_v, xqi_e, xql_e, xqv_e, forall_eq, true_and, and_true]
  have b0 : bful B (bar B (bfi B t)) = 1#64 := bful_0 y.2.1
  refine l_ask L w hS ht (Nat.le_refl _) (by omega) hl (by rw [b0]; exact sbs.refl _) (fun σ1 A1 mk1 o1 L1 g1 s1 => ?_)
  rw [xqv_v]
  have W1 := W.keep o1
  simp (disch := omega) only [i32_lit, l64_lit, lc_eq, lc_ge, lc_le, lc_gt, lc_lt, jL_inj, jL_add, jL_sub, jL_mul, jL_neg, jL_and, jL_or, jL_xor, jL_mone, BitVec.xor_allOnes, nI_clamp, nI_ltI, nI_leI, nI_eq, nI_1, nI_add, nI_sub, nI_addm, nI_mul, vp_in_n, xi_pi, xi_pl, xl_pi, xl_pl, xb_pi, xb_pl, xqi_i, xql_l, xqv_v, xqi_e, xql_e, xqv_e, forall_eq, true_and, and_true, W1.2 (bfi B t) (Nat.le_refl _) (by omega), rc_fi L1.1]
  have at1 : A1 t = A t := g1.2 t (fun i i1 i2 e => by have := wf_ar w ht i1 i2; omega)
  refine ⟨fun e => ?_, fun e => ?_⟩
  · unfold w_Learner_explainIte_39
    simp (disch := omega) only [i32_lit, l64_lit, lc_eq, lc_ge, lc_le, lc_gt, lc_lt, jL_inj, jL_add, jL_sub, jL_mul, jL_neg, jL_and, jL_or, jL_xor, jL_mone, BitVec.xor_allOnes, nI_clamp, nI_ltI, nI_leI, nI_eq, nI_1, nI_add, nI_sub, nI_addm, nI_mul, vp_in_n, xi_pi, xi_pl, xl_pi, xl_pl, xb_pi, xb_pl, xqi_i, xql_l, xqv_v, xqi_e, xql_e, xqv_e, forall_eq, true_and, and_true, rc_ar L1.1]
    refine l_ask L1 w hS ht (by omega) (by omega) hl (by rw [bful_eq y.2.2.2]; exact hf) (fun σ2 A2 mk2 o2 L2 g2 s2 => ?_)
    rw [xqv_v]
    have at2 : A2 t = A t := (g2.2 t (fun i i1 i2 e => by have := wf_ar w ht i1 i2; omega)).trans at1
    refine k σ2 A2 mk2 (o1.trans o2) L2 (g1.trans g2) (st_ite w ht z (by rw [b0]; exact s1.trans (g2.1 _)) (fun n => absurd e n) (fun _ => by rw [at2]; exact s2))
  · unfold w_Learner_explainIte_39
    simp (disch := omega) only [i32_lit, l64_lit, lc_eq, lc_ge, lc_le, lc_gt, lc_lt, jL_inj, jL_add, jL_sub, jL_mul, jL_neg, jL_and, jL_or, jL_xor, jL_mone, BitVec.xor_allOnes, nI_clamp, nI_ltI, nI_leI, nI_eq, nI_1, nI_add, nI_sub, nI_addm, nI_mul, vp_in_n, xi_pi, xi_pl, xl_pi, xl_pl, xb_pi, xb_pl, xqi_i, xql_l, xqv_v, xqi_e, xql_e, xqv_e, forall_eq, true_and, and_true, rc_ar L1.1]
    refine l_ask L1 w hS ht (by omega) (by omega) hl (by rw [bful_eq y.2.2.1]; exact hf) (fun σ2 A2 mk2 o2 L2 g2 s2 => ?_)
    rw [xqv_v]
    have at2 : A2 t = A t := (g2.2 t (fun i i1 i2 e => by have := wf_ar w ht i1 i2; omega)).trans at1
    refine k σ2 A2 mk2 (o1.trans o2) L2 (g1.trans g2) (st_ite w ht z (by rw [b0]; exact s1.trans (g2.1 _)) (fun _ => by rw [at2]; exact s2) (fun n => absurd n e))
theorem gro.own {A' : Nat → BitVec 64} (g : gro B t A A') (w : wfB B) (ht : t < bma B) : A' t = A t := g.2 t (fun i i1 i2 e => by have := wf_ar w ht i1 i2; omega)
theorem l_product (L : lnS B li σ A mk) (w : wfB B) (hS : bsz B ≤ 16) (ht : t < bma B) (hl : t ≤ li) (W : wrt B J σ t) (z : bop B t = 27) (k : fin B li t σ A Q (fun A' => stOK B J A' t)) : wp_Learner_explainProduct Q σ (nI t) (jL (upT (A t))) := by
  have hm := wf_ma w
  obtain ⟨f1, f2, f3⟩ := wf_fi w ht
  have y := ty_27 (wf_ty w ht) z
  have hf := L.2.2.2.2.2.2 t ht
  have ub : sbs (upT (A t)) (bful B t) := sbs.of fun i hi hb => by
    obtain ⟨j, j1, j2⟩ := upT_bit.mp hb
    have := hf.b j2
    rw [bful_v y.2.2.1 y.2.2.2, bm_bit] at this ⊢
    simp at this ⊢
    omega
  have ubi : ∀ i, bfi B t ≤ i → i < bfi B (t + 1) → sbs (upT (A t)) (bful B (bar B i)) := fun i i1 i2 => by
    have := y.2.1 (i - bfi B t) (by omega)
    rw [show bfi B t + (i - bfi B t) = i by omega] at this
    rw [bful_eq this]
    exact ub
  unfold wp_Learner_explainProduct
  simp (disch := omega) only [i32_lit, l64_lit, lc_eq, lc_ge, lc_le, lc_gt, lc_lt, jL_inj, jL_add, jL_sub, jL_mul, jL_neg, jL_and, jL_or, jL_xor, jL_mone, BitVec.xor_allOnes, nI_clamp, nI_ltI, nI_leI, nI_eq, nI_1, nI_add, nI_sub, nI_addm, nI_mul, vp_in_n, xi_pi, xi_pl, xl_pi, xl_pl, xb_pi, xb_pl, xqi_i, xql_l, xqv_v, xqi_e, xql_e, xqv_e, forall_eq, true_and, and_true, rc_fi L.1]
  have key := loop_i (σ := Option Nat) (fun m j ob => w_Learner_explainProduct_14 Q m (nI t) (jL (upT (A t))) (opN B ob) (nI j) σ) (fun j ob => bfi B t ≤ j ∧ ∀ p, ob = some p → bfi B t ≤ p ∧ p < bfi B (t + 1) ∧ ev B J (bar B p) &&& upT (A t) = 0#64) (bfi B (t + 1)) (fun m ob hO => ?_) (fun m j ob hj hO hs => ?_)
  · exact ⟨_, key (bfi B (t + 1) - bfi B t + 1) (bfi B t) none (by omega) (by omega) ⟨Nat.le_refl _, fun p hp => by cases hp⟩⟩
  · obtain ⟨q0, q2⟩ := hO
    unfold w_Learner_explainProduct_14
    have hob : ∀ p, ob = some p → bfi B t ≤ p ∧ p < bfi B (t + 1) := fun p hp => ⟨(q2 p hp).1, (q2 p hp).2.1⟩
    simp (disch := omega) only [i32_lit, l64_lit, lc_eq, lc_ge, lc_le, lc_gt, lc_lt, jL_inj, jL_add, jL_sub, jL_mul, jL_neg, jL_and, jL_or, jL_xor, jL_mone, BitVec.xor_allOnes, nI_clamp, nI_ltI, nI_leI, nI_eq, nI_1, nI_add, nI_sub, nI_addm, nI_mul, vp_in_n, xi_pi, xi_pl, xl_pi, xl_pl, xb_pi, xb_pl, xqi_i, xql_l, xqv_v, xqi_e, xql_e, xqv_e, forall_eq, true_and, and_true, rc_fi L.1, opN_m1 w ht hob]
    refine ⟨fun _ => ⟨fun e => ?_, fun e => ?_⟩, fun q => absurd (Nat.le_refl _) q⟩
    · refine l_askAll L w hS ht hl ubi (fun σ' A' mk' o' L' g' s' => ?_)
      rw [xqv_v]
      refine k σ' A' mk' o' L' g' (st_prod w ht (L'.2.2.2.2.2.2 t ht) z (Or.inl fun i hi => ?_))
      rw [gro.own g' w ht]
      exact s' _ (by omega) (by omega)
    · cases ob with
      | none => exact absurd rfl e
      | some p =>
        obtain ⟨p1, p2, p3⟩ := q2 p rfl
        show wp_Learner_ask _ σ (nI (bar B p)) (jL (upT (A t)))
        refine l_ask L w hS ht p1 p2 hl (ubi p p1 p2) (fun σ' A' mk' o' L' g' s' => ?_)
        rw [xqv_v]
        refine k σ' A' mk' o' L' g' (st_prod w ht (L'.2.2.2.2.2.2 t ht) z (Or.inr ⟨p - bfi B t, by omega, ?_⟩))
        rw [gro.own g' w ht, show bfi B t + (p - bfi B t) = p by omega]
        exact ⟨s', p3⟩
  · obtain ⟨q0, q2⟩ := hO
    unfold w_Learner_explainProduct_14
    have hob : ∀ p, ob = some p → bfi B t ≤ p ∧ p < bfi B (t + 1) := fun p hp => ⟨(q2 p hp).1, (q2 p hp).2.1⟩
    have jl := wf_ar w ht q0 hj
    simp (disch := omega) only [i32_lit, l64_lit, lc_eq, lc_ge, lc_le, lc_gt, lc_lt, jL_inj, jL_add, jL_sub, jL_mul, jL_neg, jL_and, jL_or, jL_xor, jL_mone, BitVec.xor_allOnes, nI_clamp, nI_ltI, nI_leI, nI_eq, nI_1, nI_add, nI_sub, nI_addm, nI_mul, vp_in_n, xi_pi, xi_pl, xl_pi, xl_pl, xb_pi, xb_pl, xqi_i, xql_l, xqv_v, xqi_e, xql_e, xqv_e, forall_eq, true_and, and_true, rc_fi L.1, rc_ar L.1, W.2 j q0 hj]
    refine ⟨fun q => absurd q (by omega), fun _ => ⟨fun e => hs ob ⟨by omega, q2⟩, fun e => ?_⟩⟩
    refine l_better w ht (by omega) hob (fun r hr => ?_)
    rw [xqi_i]
    simp (disch := omega) only [i32_lit, l64_lit, lc_eq, lc_ge, lc_le, lc_gt, lc_lt, jL_inj, jL_add, jL_sub, jL_mul, jL_neg, jL_and, jL_or, jL_xor, jL_mone, BitVec.xor_allOnes, nI_clamp, nI_ltI, nI_leI, nI_eq, nI_1, nI_add, nI_sub, nI_addm, nI_mul, vp_in_n, xi_pi, xi_pl, xl_pi, xl_pl, xb_pi, xb_pl, xqi_i, xql_l, xqv_v, xqi_e, xql_e, xqv_e, forall_eq, true_and, and_true, bI_0]
    refine ⟨fun r0 => hs ob ⟨by omega, q2⟩, fun r1 => hs (some j) ⟨by omega, fun p hp => ?_⟩⟩
    cases hp
    exact ⟨q0, hj, e⟩
end LRN3
