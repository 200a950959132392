section LRN6
variable {B : Bk} {σ : xS} {Q : xO → xS → Prop} {t mk li J : Nat} {A : Nat → BitVec 64} {bits : BitVec 64}
theorem l_concat (L : lnS B li σ A mk) (w : wfB B) (hS : bsz B ≤ 16) (ht : t < bma B) (hl : t ≤ li) (z : bop B t = 44) (k : fin B li t σ A Q (fun A' => stOK B J A' t)) : wp_Learner_explainConcat Q σ (nI t) (jL (A t)) := by
  have hm := wf_ma w
  obtain ⟨f1, f2, f3⟩ := wf_fi w ht
  have y := ty_44 (wf_ty w ht) z
  unfold wp_Learner_explainConcat
  simp (disch := omega) only [i32_lit, l64_lit, lc_eq, lc_ge, lc_le, lc_gt, lc_lt, jL_inj, jL_add, jL_sub, jL_mul, jL_neg, jL_and, jL_or, jL_xor, jL_mone, BitVec.xor_allOnes, nI_clamp, nI_ltI, nI_leI, nI_eq, nI_1, nI_add, nI_sub, nI_addm, nI_mul, vp_in_n, xi_pi, xi_pl, xl_pi, xl_pl, xb_pi, xb_pl, xqi_i, xql_l, xqv_v, xqi_e, xql_e, xqv_e, forall_eq, true_and, and_true, rc_fi L.1]
  have e0 : nI (bfi B (t + 1) - 1) = nI (bfi B (t + 1)) + -nI 1 := (nI_addm (by omega)).symm
  rw [e0]
  have key := loop_m (σ := Nat × BitVec 64 × xS) (fun n s => w_Learner_explainConcat_18 Q n (nI t) (jL s.2.1) (nI s.1 + -nI 1) s.2.2) (fun s => bfi B t ≤ s.1 ∧ s.1 ≤ bfi B (t + 1) ∧ onlyA σ s.2.2 ∧ s.2.1 = catR (fun i => bso B (bar B (bfi B t + i))) (A t) (bfi B (t + 1) - bfi B t) (bfi B (t + 1) - s.1) ∧ ∃ A' mk', lnS B li s.2.2 A' mk' ∧ gro B t A A' ∧ ∀ d, d < bfi B (t + 1) - s.1 → sbs (catR (fun i => bso B (bar B (bfi B t + i))) (A t) (bfi B (t + 1) - bfi B t) d &&& bful B (bar B (bfi B t + (bfi B (t + 1) - bfi B t - 1 - d)))) (A' (bar B (bfi B t + (bfi B (t + 1) - bfi B t - 1 - d))))) (fun s => s.1) (fun n s hI hs => ?_) (bfi B (t + 1), A t, σ) ⟨f1, Nat.le_refl _, onlyA.refl _, by rw [Nat.sub_self]; rfl, A, mk, L, gro.refl _ _ _, fun d hd => absurd hd (by simp)⟩
  · exact key
  · obtain ⟨h0, h0', h1, hr, A', mk', h2, h3, h4⟩ := hI
    show w_Learner_explainConcat_18 Q (n + 1) (nI t) (jL s.2.1) (nI s.1 + -nI 1) s.2.2
    unfold w_Learner_explainConcat_18
    simp (disch := omega) only [i32_lit, l64_lit, lc_eq, lc_ge, lc_le, lc_gt, lc_lt, jL_inj, jL_add, jL_sub, jL_mul, jL_neg, jL_and, jL_or, jL_xor, jL_mone, BitVec.xor_allOnes, nI_clamp, nI_ltI, nI_leI, nI_eq, nI_1, nI_add, nI_sub, nI_addm, nI_mul, vp_in_n, xi_pi, xi_pl, xl_pi, xl_pl, xb_pi, xb_pl, xqi_i, xql_l, xqv_v, xqi_e, xql_e, xqv_e, forall_eq, true_and, and_true, rc_fi h2.1, nI_m1lt]
    refine ⟨fun q => ?_, fun q => ?_⟩
    · have es : s.1 = bfi B t := by omega
      refine k s.2.2 A' mk' h1 h2 h3 (st_cat w ht (h2.2.2.2.2.2.2 t ht) z (fun d hd => ?_))
      rw [gro.own h3 w ht]
      exact h4 d (by omega)
    · have e1 : nI s.1 + -nI 1 = nI (s.1 - 1) := nI_addm (by omega)
      have i1 : bfi B t ≤ s.1 - 1 := by omega
      have i2 : s.1 - 1 < bfi B (t + 1) := by omega
      have il := wf_ar w ht i1 i2
      have yb := y.2.1 (s.1 - 1 - bfi B t) (by omega)
      rw [show bfi B t + (s.1 - 1 - bfi B t) = s.1 - 1 by omega] at yb
      rw [e1]
      simp (disch := omega) only [i32_lit, l64_lit, lc_eq, lc_ge, lc_le, lc_gt, lc_lt, jL_inj, jL_add, jL_sub, jL_mul, jL_neg, jL_and, jL_or, jL_xor, jL_mone, BitVec.xor_allOnes, nI_clamp, nI_ltI, nI_leI, nI_eq, nI_1, nI_add, nI_sub, nI_addm, nI_mul, vp_in_n, xi_pi, xi_pl, xl_pi, xl_pl, xb_pi, xb_pl, xqi_i, xql_l, xqv_v, xqi_e, xql_e, xqv_e, forall_eq, true_and, and_true, rc_ar h2.1, rc_fu h2.1]
      refine l_ask h2 w hS ht i1 i2 hl (sbs.andr _ _) (fun σ' A2 mk2 o2 L2 g2 s2 => ?_)
      rw [xqv_v]
      simp (disch := omega) only [i32_lit, l64_lit, lc_eq, lc_ge, lc_le, lc_gt, lc_lt, jL_inj, jL_add, jL_sub, jL_mul, jL_neg, jL_and, jL_or, jL_xor, jL_mone, BitVec.xor_allOnes, nI_clamp, nI_ltI, nI_leI, nI_eq, nI_1, nI_add, nI_sub, nI_addm, nI_mul, vp_in_n, xi_pi, xi_pl, xl_pi, xl_pl, xb_pi, xb_pl, xqi_i, xql_l, xqv_v, xqi_e, xql_e, xqv_e, forall_eq, true_and, and_true, rc_so L2.1]
      rw [jL_ushr _ (by omega), ← e1, show nI s.1 + -nI 1 + -nI 1 = nI (s.1 - 1) + -nI 1 by rw [e1]]
      have ed : bfi B (t + 1) - bfi B t - 1 - (bfi B (t + 1) - s.1) = s.1 - 1 - bfi B t := by omega
      refine hs (s.1 - 1, s.2.1 >>> bso B (bar B (s.1 - 1)), σ') ⟨i1, by omega, h1.trans o2, ?_, A2, mk2, L2, h3.trans g2, fun d hd => ?_⟩ (by show s.1 - 1 < s.1; omega)
      · show s.2.1 >>> bso B (bar B (s.1 - 1)) = catR _ (A t) _ (bfi B (t + 1) - (s.1 - 1))
        rw [show bfi B (t + 1) - (s.1 - 1) = (bfi B (t + 1) - s.1) + 1 by omega, catR, ed, ← hr, show bfi B t + (s.1 - 1 - bfi B t) = s.1 - 1 by omega]
      · have hd : d < bfi B (t + 1) - (s.1 - 1) := hd
        by_cases c : d = bfi B (t + 1) - s.1
        · rw [c, ed, ← hr, show bfi B t + (s.1 - 1 - bfi B t) = s.1 - 1 by omega]
          exact s2
        · exact (h4 d (by omega)).trans (g2.1 _)
theorem l_select (L : lnS B li σ A mk) (w : wfB B) (hS : bsz B ≤ 16) (ht : t < bma B) (hl : t ≤ li) (W : wrt B J σ t) (z : bop B t = 45) (k : fin B li t σ A Q (fun A' => stOK B J A' t)) : wp_Learner_explainSelect Q σ (nI t) (nI (bar B (bfi B t))) (jL (A t)) := by
  have hm := wf_ma w
  obtain ⟨f1, f2, f3⟩ := wf_fi w ht
  have y := ty_45 (wf_ty w ht) z
  have l0 := wf_ar w ht (Nat.le_refl _) (show bfi B t < bfi B (t + 1) by omega)
  have l1 := wf_ar w ht (show bfi B t ≤ bfi B t + 1 by omega) (by omega)
  have hf := L.2.2.2.2.2.2 t ht
  have os := wf_so w (show bar B (bfi B t) < bma B by omega)
  have os2 : bso B (bar B (bfi B t)) / 128 ≤ 6 ∧ 1 ≤ bso B (bar B (bfi B t)) % 128 ∧ bso B (bar B (bfi B t)) % 128 ≤ 64 := by unfold okS at os; omega
  have sz := (w.2.2.2.1 (bar B (bfi B t)) (by omega)).2.2 y.2.1
  have iv : (ev B J (bar B (bfi B t + 1))).toNat < 2 ^ (bso B (bar B (bfi B t)) / 128) := by
    have := ev_lt (J := J) w (show bar B (bfi B t + 1) < bma B by omega)
    rw [vec_sz (s := bso B (bar B (bfi B t + 1))) (by omega) (by omega), y.2.2.1] at this
    exact this
  have cl := csh_lt (c := (ev B J (bar B (bfi B t + 1))).toNat) os y.2.1
  have cw := csh_w (c := (ev B J (bar B (bfi B t + 1))).toNat) y.2.1 os
  unfold wp_Learner_explainSelect
  simp (disch := omega) only [i32_lit, l64_lit, lc_eq, lc_ge, lc_le, lc_gt, lc_lt, jL_inj, jL_add, jL_sub, jL_mul, jL_neg, jL_and, jL_or, jL_xor, jL_mone, BitVec.xor_allOnes, nI_clamp, nI_ltI, nI_leI, nI_eq, nI_1, nI_add, nI_sub, nI_addm, nI_mul, vp_in_n, xi_pi, xi_pl, xl_pi, xl_pl, xb_pi, xb_pl, xqi_i, xql_l, xqv_v, xqi_e, xql_e, xqv_e, forall_eq, true_and, and_true, rc_fi L.1, rc_ar L.1, rc_fu L.1]
  refine l_ask L w hS ht (by omega) (by omega) hl (sbs.refl _) (fun σ1 A1 mk1 o1 L1 g1 s1 => ?_)
  rw [xqv_v]
  have W1 := W.keep o1
  simp (disch := omega) only [i32_lit, l64_lit, lc_eq, lc_ge, lc_le, lc_gt, lc_lt, jL_inj, jL_add, jL_sub, jL_mul, jL_neg, jL_and, jL_or, jL_xor, jL_mone, BitVec.xor_allOnes, nI_clamp, nI_ltI, nI_leI, nI_eq, nI_1, nI_add, nI_sub, nI_addm, nI_mul, vp_in_n, xi_pi, xi_pl, xl_pi, xl_pl, xb_pi, xb_pl, xqi_i, xql_l, xqv_v, xqi_e, xql_e, xqv_e, forall_eq, true_and, and_true, W1.2 (bfi B t + 1) (by omega) (by omega), rc_so L1.1]
  refine p_cellShift os iv ?_
  rw [xqi_i, jL_shl _ (by omega)]
  refine l_ask L1 w hS ht (Nat.le_refl _) (by omega) hl (sbs.of fun i hi hb => ?_) (fun σ2 A2 mk2 o2 L2 g2 s2 => ?_)
  · rw [BitVec.getLsbD_shiftLeft] at hb
    simp at hb
    have := hf.b hb.2
    rw [bful_v (by omega) (by omega), bm_bit] at this
    simp at this
    unfold bful
    rw [bm_bit]
    simp
    omega
  · rw [xqv_v]
    have at2 : A2 t = A t := gro.own (g1.trans g2) w ht
    exact k σ2 A2 mk2 (o1.trans o2) L2 (g1.trans g2) (st_sel w ht (L2.2.2.2.2.2.2 t ht) z hS (s1.trans (g2.1 _)) (by rw [at2]; exact s2))
theorem l_store (L : lnS B li σ A mk) (w : wfB B) (hS : bsz B ≤ 16) (ht : t < bma B) (hl : t ≤ li) (W : wrt B J σ t) (z : bop B t = 46) (k : fin B li t σ A Q (fun A' => stOK B J A' t)) : wp_Learner_explainStore Q σ (nI t) (nI (bar B (bfi B t))) (jL (A t)) := by
  have hm := wf_ma w
  obtain ⟨f1, f2, f3⟩ := wf_fi w ht
  have y := ty_46 (wf_ty w ht) z
  have l0 := wf_ar w ht (Nat.le_refl _) (show bfi B t < bfi B (t + 1) by omega)
  have l1 := wf_ar w ht (show bfi B t ≤ bfi B t + 1 by omega) (by omega)
  have l2 := wf_ar w ht (show bfi B t ≤ bfi B t + 2 by omega) (by omega)
  have hf := L.2.2.2.2.2.2 t ht
  have os := wf_so w (show bar B (bfi B t) < bma B by omega)
  have os2 : bso B (bar B (bfi B t)) / 128 ≤ 6 ∧ 1 ≤ bso B (bar B (bfi B t)) % 128 ∧ bso B (bar B (bfi B t)) % 128 ≤ 64 := by unfold okS at os; omega
  have sz := (w.2.2.2.1 (bar B (bfi B t)) (by omega)).2.2 y.2.1
  have iv : (ev B J (bar B (bfi B t + 1))).toNat < 2 ^ (bso B (bar B (bfi B t)) / 128) := by
    have := ev_lt (J := J) w (show bar B (bfi B t + 1) < bma B by omega)
    rw [vec_sz (s := bso B (bar B (bfi B t + 1))) (by omega) (by omega), y.2.2.1] at this
    exact this
  have cl := csh_lt (c := (ev B J (bar B (bfi B t + 1))).toNat) os y.2.1
  unfold wp_Learner_explainStore
  simp (disch := omega) only [i32_lit, l64_lit, lc_eq, lc_ge, lc_le, lc_gt, lc_lt, jL_inj, jL_add, jL_sub, jL_mul, jL_neg, jL_and, jL_or, jL_xor, jL_mone, BitVec.xor_allOnes, nI_clamp, nI_ltI, nI_leI, nI_eq, nI_1, nI_add, nI_sub, nI_addm, nI_mul, vp_in_n, xi_pi, xi_pl, xl_pi, xl_pl, xb_pi, xb_pl, xqi_i, xql_l, xqv_v, xqi_e, xql_e, xqv_e, forall_eq, true_and, and_true, rc_fi L.1, rc_ar L.1, rc_so L.1, W.2 (bfi B t + 1) (by omega) (by omega)]
  refine p_cellShift os iv ?_
  rw [xqi_i]
  simp (disch := omega) only [i32_lit, l64_lit, lc_eq, lc_ge, lc_le, lc_gt, lc_lt, jL_inj, jL_add, jL_sub, jL_mul, jL_neg, jL_and, jL_or, jL_xor, jL_mone, BitVec.xor_allOnes, nI_clamp, nI_ltI, nI_leI, nI_eq, nI_1, nI_add, nI_sub, nI_addm, nI_mul, vp_in_n, xi_pi, xi_pl, xl_pi, xl_pl, xb_pi, xb_pl, xqi_i, xql_l, xqv_v, xqi_e, xql_e, xqv_e, forall_eq, true_and, and_true, rc_fu L.1]
  refine l_ask L w hS ht (by omega) (by omega) hl (sbs.refl _) (fun σ1 A1 mk1 o1 L1 g1 s1 => ?_)
  rw [xqv_v]
  simp (disch := omega) only [i32_lit, l64_lit, lc_eq, lc_ge, lc_le, lc_gt, lc_lt, jL_inj, jL_add, jL_sub, jL_mul, jL_neg, jL_and, jL_or, jL_xor, jL_mone, BitVec.xor_allOnes, nI_clamp, nI_ltI, nI_leI, nI_eq, nI_1, nI_add, nI_sub, nI_addm, nI_mul, vp_in_n, xi_pi, xi_pl, xl_pi, xl_pl, xb_pi, xb_pl, xqi_i, xql_l, xqv_v, xqi_e, xql_e, xqv_e, forall_eq, true_and, and_true, rc_fu L1.1]
  rw [jL_ushr _ (by omega)]
  simp (disch := omega) only [i32_lit, l64_lit, lc_eq, lc_ge, lc_le, lc_gt, lc_lt, jL_inj, jL_add, jL_sub, jL_mul, jL_neg, jL_and, jL_or, jL_xor, jL_mone, BitVec.xor_allOnes, nI_clamp, nI_ltI, nI_leI, nI_eq, nI_1, nI_add, nI_sub, nI_addm, nI_mul, vp_in_n, xi_pi, xi_pl, xl_pi, xl_pl, xb_pi, xb_pl, xqi_i, xql_l, xqv_v, xqi_e, xql_e, xqv_e, forall_eq, true_and, and_true]
  refine l_ask L1 w hS ht (by omega) (by omega) hl (sbs.andr _ _) (fun σ2 A2 mk2 o2 L2 g2 s2 => ?_)
  rw [xqv_v]
  simp (disch := omega) only [i32_lit, l64_lit, lc_eq, lc_ge, lc_le, lc_gt, lc_lt, jL_inj, jL_add, jL_sub, jL_mul, jL_neg, jL_and, jL_or, jL_xor, jL_mone, BitVec.xor_allOnes, nI_clamp, nI_ltI, nI_leI, nI_eq, nI_1, nI_add, nI_sub, nI_addm, nI_mul, vp_in_n, xi_pi, xi_pl, xl_pi, xl_pl, xb_pi, xb_pl, xqi_i, xql_l, xqv_v, xqi_e, xql_e, xqv_e, forall_eq, true_and, and_true, rc_fu L2.1]
  rw [jL_shl _ (by omega)]
  simp (disch := omega) only [i32_lit, l64_lit, lc_eq, lc_ge, lc_le, lc_gt, lc_lt, jL_inj, jL_add, jL_sub, jL_mul, jL_neg, jL_and, jL_or, jL_xor, jL_mone, BitVec.xor_allOnes, nI_clamp, nI_ltI, nI_leI, nI_eq, nI_1, nI_add, nI_sub, nI_addm, nI_mul, vp_in_n, xi_pi, xi_pl, xl_pi, xl_pl, xb_pi, xb_pl, xqi_i, xql_l, xqv_v, xqi_e, xql_e, xqv_e, forall_eq, true_and, and_true]
  refine l_ask L2 w hS ht (Nat.le_refl _) (by omega) hl ?_ (fun σ3 A3 mk3 o3 L3 g3 s3 => ?_)
  · rw [bful_eq (show bso B (bar B (bfi B t)) = bso B t by omega)]
    exact hf.andl _
  · rw [xqv_v]
    have at3 : A3 t = A t := gro.own ((g1.trans g2).trans g3) w ht
    refine k σ3 A3 mk3 ((o1.trans o2).trans o3) L3 ((g1.trans g2).trans g3) (st_sto w ht (L3.2.2.2.2.2.2 t ht) z (s1.trans ((g2.trans g3).1 _)) ?_ ?_)
    · rw [at3]; exact s2.trans (g3.1 _)
    · rw [at3]; exact s3
end LRN6
