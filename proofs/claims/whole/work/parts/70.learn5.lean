section LRN5
variable {B : Bk} {σ : xS} {Q : xO → xS → Prop} {t mk li J : Nat} {A : Nat → BitVec 64} {bits : BitVec 64}
theorem l_shift (L : lnS B li σ A mk) (w : wfB B) (hS : bsz B ≤ 16) (ht : t < bma B) (hl : t ≤ li) (W : wrt B J σ t) (z : bop B t = 33 ∨ bop B t = 34) (k : fin B li t σ A Q (fun A' => stOK B J A' t)) : wp_Learner_explainShift Q σ (nI t) (nI (bar B (bfi B t))) (jL (A t)) := by
  have hm := wf_ma w
  obtain ⟨f1, f2, f3⟩ := wf_fi w ht
  have ty := wf_ty w ht
  have y : (bfi B (t + 1) - bfi B t) = 2 ∧ bso B (bar B (bfi B t)) = bso B (bar B (bfi B t + 1)) ∧ 1 ≤ bso B (bar B (bfi B t)) ∧ bso B (bar B (bfi B t)) ≤ 64 ∧ (bso B t) = bso B (bar B (bfi B t)) := by
    rcases z with z | z
    · exact ty_33 ty z
    · exact ty_34 ty z
  have l0 := wf_ar w ht (Nat.le_refl _) (show bfi B t < bfi B (t + 1) by omega)
  have l1 := wf_ar w ht (show bfi B t ≤ bfi B t + 1 by omega) (by omega)
  have hf := L.2.2.2.2.2.2 t ht
  have fv : bful B t = bm (bso B t) := bful_v (by omega) (by omega)
  have f0 : bful B (bar B (bfi B t)) = bful B t := bful_eq (by omega)
  unfold wp_Learner_explainShift
  simp (disch := omega) only [i32_lit, l64_lit, lc_eq, lc_ge, lc_le, lc_gt, lc_lt, jL_inj, jL_add, jL_sub, jL_mul, jL_neg, jL_and, jL_or, jL_xor, jL_mone, BitVec.xor_allOnes, nI_clamp, nI_ltI, nI_leI, nI_eq, nI_1, nI_add, nI_sub, nI_addm, nI_mul, vp_in_n, xi_pi, xi_pl, xl_pi, xl_pl, xb_pi, xb_pl, xqi_i, xql_l, xqv_v, xqi_e, xql_e, xqv_e, forall_eq, true_and, and_true, rc_fi L.1, rc_ar L.1, rc_fu L.1]
  refine l_ask L w hS ht (by omega) (by omega) hl (sbs.refl _) (fun σ1 A1 mk1 o1 L1 g1 s1 => ?_)
  rw [xqv_v]
  have W1 := W.keep o1
  simp (disch := omega) only [i32_lit, l64_lit, lc_eq, lc_ge, lc_le, lc_gt, lc_lt, jL_inj, jL_add, jL_sub, jL_mul, jL_neg, jL_and, jL_or, jL_xor, jL_mone, BitVec.xor_allOnes, nI_clamp, nI_ltI, nI_leI, nI_eq, nI_1, nI_add, nI_sub, nI_addm, nI_mul, vp_in_n, xi_pi, xi_pl, xl_pi, xl_pl, xb_pi, xb_pl, xqi_i, xql_l, xqv_v, xqi_e, xql_e, xqv_e, forall_eq, true_and, and_true, W1.2 (bfi B t + 1) (by omega) (by omega), rc_so L1.1]
  rw [jL_i2l (by omega)]
  refine p_less ?_
  have wn : (BitVec.ofNat 64 (bso B (bar B (bfi B t)))).toNat = bso B (bar B (bfi B t)) := by rw [BitVec.toNat_ofNat]; omega
  rw [xqi_i, wn]
  by_cases e : (ev B J (bar B (bfi B t + 1))).toNat < bso B (bar B (bfi B t))
  · rw [if_pos e]
    refine ⟨fun q => absurd q (by decide), fun _ => ?_⟩
    simp (disch := omega) only [i32_lit, l64_lit, lc_eq, lc_ge, lc_le, lc_gt, lc_lt, jL_inj, jL_add, jL_sub, jL_mul, jL_neg, jL_and, jL_or, jL_xor, jL_mone, BitVec.xor_allOnes, nI_clamp, nI_ltI, nI_leI, nI_eq, nI_1, nI_add, nI_sub, nI_addm, nI_mul, vp_in_n, xi_pi, xi_pl, xl_pi, xl_pl, xb_pi, xb_pl, xqi_i, xql_l, xqv_v, xqi_e, xql_e, xqv_e, forall_eq, true_and, and_true, rc_op L1.1, W1.2 (bfi B t + 1) (by omega) (by omega), jL_l2i, rc_fu L1.1]
    have go : ∀ x : BitVec 64, sbs x (bful B (bar B (bfi B t))) → (∀ A2 : Nat → BitVec 64, sbs x (A2 (bar B (bfi B t))) → sbs (if bop B t = 33 then A t >>> (ev B J (bar B (bfi B t + 1))).toNat else (A t <<< (ev B J (bar B (bfi B t + 1))).toNat) &&& bful B (bar B (bfi B t))) (A2 (bar B (bfi B t)))) → w_Learner_explainShift_107 Q (nI (bar B (bfi B t))) (jL x) σ1 := by
      intro x hx hA
      unfold w_Learner_explainShift_107
      refine l_ask L1 w hS ht (Nat.le_refl _) (by omega) hl hx (fun σ2 A2 mk2 o2 L2 g2 s2 => ?_)
      rw [xqv_v]
      have at2 : A2 t = A t := gro.own (g1.trans g2) w ht
      refine k σ2 A2 mk2 (o1.trans o2) L2 (g1.trans g2) (st_shift w ht (L2.2.2.2.2.2.2 t ht) z (s1.trans (g2.1 _)) (fun _ => ?_))
      rw [at2]
      exact hA A2 s2
    refine ⟨fun c => ?_, fun c => ?_⟩
    · rw [jL_shl _ (by omega), jL_and]
      exact go _ (sbs.andr _ _) (fun A2 q => by rw [if_neg c]; exact q)
    · rw [jL_ushr _ (by omega)]
      refine go _ (sbs.of fun i hi hb => ?_) (fun A2 q => by rw [if_pos c]; exact q)
      rw [BitVec.getLsbD_ushiftRight] at hb
      have := hf.b hb
      rw [fv, bm_bit] at this
      simp at this
      rw [f0, fv, bm_bit]
      simp
      omega
  · rw [if_neg e]
    refine ⟨fun _ => ?_, fun q => absurd rfl q⟩
    exact k σ1 A1 mk1 o1 L1 g1 (st_shift w ht (L1.2.2.2.2.2.2 t ht) z s1 (fun q => absurd q e))
theorem top_bit {W : Nat} (h1 : 1 ≤ W) (h2 : W ≤ 64) (j : Nat) : (bm W ^^^ (bm W >>> 1)).getLsbD j = decide (j = W - 1) := by
  rw [BitVec.getLsbD_xor, BitVec.getLsbD_ushiftRight, bm_bit, bm_bit]
  by_cases e : j = W - 1
  · subst e
    rw [decide_eq_true (show W - 1 < W by omega), decide_eq_true (show W - 1 < 64 by omega), decide_eq_false (show ¬ 1 + (W - 1) < W by omega)]
    simp
  · rw [decide_eq_false e]
    by_cases q : j < W
    · rw [decide_eq_true q, decide_eq_true (show j < 64 by omega), decide_eq_true (show 1 + j < W by omega), decide_eq_true (show 1 + j < 64 by omega)]
      rfl
    · rw [decide_eq_false q, decide_eq_false (show ¬ 1 + j < W by omega)]
      rfl
/-- asks for the bits, and for the highest one if that fills others -/
theorem l_filled {i : Nat} {fl : Bool} (L : lnS B li σ A mk) (w : wfB B) (hS : bsz B ≤ 16) (ht : t < bma B) (hl : t ≤ li) (i1 : bfi B t ≤ i) (i2 : i < bfi B (t + 1)) (s1 : 1 ≤ bso B (bar B i)) (s2 : bso B (bar B i) ≤ 64) (hb : sbs bits (bful B (bar B i)))
    (k : fin B li t σ A Q (fun A' => sbs bits (A' (bar B i)) ∧ (fl = true → (A' (bar B i)).getLsbD (bso B (bar B i) - 1) = true))) : wp_Learner_askFilled Q σ (nI (bar B i)) (jL bits) (bI fl) := by
  have hm := wf_ma w
  have il := wf_ar w ht i1 i2
  have fv := bful_v s1 s2
  unfold wp_Learner_askFilled w_Learner_askFilled_34
  simp (disch := omega) only [i32_lit, l64_lit, lc_eq, lc_ge, lc_le, lc_gt, lc_lt, jL_inj, jL_add, jL_sub, jL_mul, jL_neg, jL_and, jL_or, jL_xor, jL_mone, BitVec.xor_allOnes, nI_clamp, nI_ltI, nI_leI, nI_eq, nI_1, nI_add, nI_sub, nI_addm, nI_mul, vp_in_n, xi_pi, xi_pl, xl_pi, xl_pl, xb_pi, xb_pl, xqi_i, xql_l, xqv_v, xqi_e, xql_e, xqv_e, forall_eq, true_and, and_true, bI_0, rc_fu L.1]
  refine ⟨fun e => ?_, fun e => ?_⟩
  · refine l_ask L w hS ht i1 i2 hl hb (fun σ' A' mk' o' L' g' s' => ?_)
    rw [xqv_v]
    exact k σ' A' mk' o' L' g' ⟨s', fun q => by rw [e] at q; cases q⟩
  · rw [jL_ushr _ (show 1 < 64 by decide), jL_xor, jL_or]
    refine l_ask L w hS ht i1 i2 hl (hb.or (sbs.of fun j hj q => ?_)) (fun σ' A' mk' o' L' g' s' => ?_)
    · rw [fv, top_bit s1 s2] at q
      have := of_decide_eq_true q
      rw [fv, bm_bit]
      simp
      omega
    · rw [xqv_v]
      refine k σ' A' mk' o' L' g' ⟨(sbs.orl _ _).trans s', fun _ => ((sbs.orr _ _).trans s').b ?_⟩
      rw [fv, top_bit s1 s2, decide_eq_true rfl]
theorem l_ashr (L : lnS B li σ A mk) (w : wfB B) (hS : bsz B ≤ 16) (ht : t < bma B) (hl : t ≤ li) (W : wrt B J σ t) (z : bop B t = 35) (k : fin B li t σ A Q (fun A' => stOK B J A' t)) : wp_Learner_explainSignedShift Q σ (nI t) (nI (bar B (bfi B t))) (jL (A t)) := by
  have hm := wf_ma w
  obtain ⟨f1, f2, f3⟩ := wf_fi w ht
  have y := ty_35 (wf_ty w ht) z
  have l0 := wf_ar w ht (Nat.le_refl _) (show bfi B t < bfi B (t + 1) by omega)
  have l1 := wf_ar w ht (show bfi B t ≤ bfi B t + 1 by omega) (by omega)
  have hf := L.2.2.2.2.2.2 t ht
  have fv : bful B (bar B (bfi B t)) = bm (bso B (bar B (bfi B t))) := bful_v (by omega) (by omega)
  unfold wp_Learner_explainSignedShift
  simp (disch := omega) only [i32_lit, l64_lit, lc_eq, lc_ge, lc_le, lc_gt, lc_lt, jL_inj, jL_add, jL_sub, jL_mul, jL_neg, jL_and, jL_or, jL_xor, jL_mone, BitVec.xor_allOnes, nI_clamp, nI_ltI, nI_leI, nI_eq, nI_1, nI_add, nI_sub, nI_addm, nI_mul, vp_in_n, xi_pi, xi_pl, xl_pi, xl_pl, xb_pi, xb_pl, xqi_i, xql_l, xqv_v, xqi_e, xql_e, xqv_e, forall_eq, true_and, and_true, rc_fi L.1, rc_ar L.1, rc_fu L.1]
  refine l_ask L w hS ht (by omega) (by omega) hl (sbs.refl _) (fun σ1 A1 mk1 o1 L1 g1 s1 => ?_)
  rw [xqv_v]
  have W1 := W.keep o1
  simp (disch := omega) only [i32_lit, l64_lit, lc_eq, lc_ge, lc_le, lc_gt, lc_lt, jL_inj, jL_add, jL_sub, jL_mul, jL_neg, jL_and, jL_or, jL_xor, jL_mone, BitVec.xor_allOnes, nI_clamp, nI_ltI, nI_leI, nI_eq, nI_1, nI_add, nI_sub, nI_addm, nI_mul, vp_in_n, xi_pi, xi_pl, xl_pi, xl_pl, xb_pi, xb_pl, xqi_i, xql_l, xqv_v, xqi_e, xql_e, xqv_e, forall_eq, true_and, and_true, W1.2 (bfi B t + 1) (by omega) (by omega), rc_so L1.1]
  refine p_signShift (by omega) (by omega) ?_
  rw [xqi_i]
  have hs : sshf (ev B J (bar B (bfi B t + 1))) (bso B (bar B (bfi B t))) < bso B (bar B (bfi B t)) := by unfold sshf; split <;> omega
  simp (disch := omega) only [i32_lit, l64_lit, lc_eq, lc_ge, lc_le, lc_gt, lc_lt, jL_inj, jL_add, jL_sub, jL_mul, jL_neg, jL_and, jL_or, jL_xor, jL_mone, BitVec.xor_allOnes, nI_clamp, nI_ltI, nI_leI, nI_eq, nI_1, nI_add, nI_sub, nI_addm, nI_mul, vp_in_n, xi_pi, xi_pl, xl_pi, xl_pl, xb_pi, xb_pl, xqi_i, xql_l, xqv_v, xqi_e, xql_e, xqv_e, forall_eq, true_and, and_true, rc_fu L1.1]
  rw [jL_ushr _ (by omega), jL_shl _ (by omega)]
  simp (disch := omega) only [i32_lit, l64_lit, lc_eq, lc_ge, lc_le, lc_gt, lc_lt, jL_inj, jL_add, jL_sub, jL_mul, jL_neg, jL_and, jL_or, jL_xor, jL_mone, BitVec.xor_allOnes, nI_clamp, nI_ltI, nI_leI, nI_eq, nI_1, nI_add, nI_sub, nI_addm, nI_mul, vp_in_n, xi_pi, xi_pl, xl_pi, xl_pl, xb_pi, xb_pl, xqi_i, xql_l, xqv_v, xqi_e, xql_e, xqv_e, forall_eq, true_and, and_true]
  have go : ∀ fl : Bool, (fl = false → A t &&& ~~~ (bful B (bar B (bfi B t)) >>> sshf (ev B J (bar B (bfi B t + 1))) (bso B (bar B (bfi B t)))) = 0#64) → w_Learner_explainSignedShift_102 Q (nI (bar B (bfi B t))) (jL (A t <<< sshf (ev B J (bar B (bfi B t + 1))) (bso B (bar B (bfi B t))) &&& bful B (bar B (bfi B t)))) (bI fl) σ1 := by
    intro fl hfl
    unfold w_Learner_explainSignedShift_102
    refine l_filled L1 w hS ht hl (Nat.le_refl _) (by omega) (by omega) (by omega) (sbs.andr _ _) (fun σ2 A2 mk2 o2 L2 g2 s2 => ?_)
    rw [xqv_v]
    have at2 : A2 t = A t := gro.own (g1.trans g2) w ht
    refine k σ2 A2 mk2 (o1.trans o2) L2 (g1.trans g2) (st_ashr w ht (L2.2.2.2.2.2.2 t ht) z (s1.trans (g2.1 _)) (fun j hj => ?_))
    rw [at2] at hj
    have j64 : j < 64 := by
      apply Classical.byContradiction
      intro n
      rw [BitVec.getLsbD_of_ge _ _ (by omega)] at hj
      cases hj
    by_cases q : sshf (ev B J (bar B (bfi B t + 1))) (bso B (bar B (bfi B t))) + j < bso B (bar B (bfi B t))
    · rw [if_pos q]
      refine s2.1.b ?_
      rw [BitVec.getLsbD_and, BitVec.getLsbD_shiftLeft, fv, bm_bit]
      simp [hj, q]
      omega
    · rw [if_neg q]
      refine s2.2 ?_
      cases fl with
      | true => rfl
      | false =>
        have := congrArg (fun x => x.getLsbD j) (hfl rfl)
        simp only [BitVec.getLsbD_and, BitVec.getLsbD_not, BitVec.getLsbD_ushiftRight, hj, fv, bm_bit, decide_eq_false q, BitVec.getLsbD_zero] at this
        simp [j64] at this
  exact ⟨fun e => go false (fun _ => e), fun e => go true (fun q => by cases q)⟩
theorem l_sext (L : lnS B li σ A mk) (w : wfB B) (hS : bsz B ≤ 16) (ht : t < bma B) (hl : t ≤ li) (z : bop B t = 12) (k : fin B li t σ A Q (fun A' => stOK B J A' t)) (fl : Bool) (hfl : fl = false → A t &&& ~~~ bful B (bar B (bfi B t)) = 0#64) : wp_Learner_askFilled Q σ (nI (bar B (bfi B t))) (jL (A t &&& bful B (bar B (bfi B t)))) (bI fl) := by
  have hm := wf_ma w
  obtain ⟨f1, f2, f3⟩ := wf_fi w ht
  have y := ty_12 (wf_ty w ht) z
  have fv : bful B (bar B (bfi B t)) = bm (bso B (bar B (bfi B t))) := bful_v (by omega) (by omega)
  refine l_filled L w hS ht hl (Nat.le_refl _) (by omega) (by omega) (by omega) (sbs.andr _ _) (fun σ2 A2 mk2 o2 L2 g2 s2 => ?_)
  have at2 : A2 t = A t := gro.own g2 w ht
  refine k σ2 A2 mk2 o2 L2 g2 (st_sext w ht (L2.2.2.2.2.2.2 t ht) z (fun j hj => ?_))
  rw [at2] at hj
  have j64 : j < 64 := by
    apply Classical.byContradiction
    intro n
    rw [BitVec.getLsbD_of_ge _ _ (by omega)] at hj
    cases hj
  by_cases q : j < bso B (bar B (bfi B t))
  · rw [if_pos q]
    refine s2.1.b ?_
    rw [BitVec.getLsbD_and, hj, fv, bm_bit]
    simp [q, j64]
  · rw [if_neg q]
    refine s2.2 ?_
    cases fl with
    | true => rfl
    | false =>
      have := congrArg (fun x => x.getLsbD j) (hfl rfl)
      simp only [BitVec.getLsbD_and, BitVec.getLsbD_not, hj, fv, bm_bit, decide_eq_false q, BitVec.getLsbD_zero] at this
      simp [j64] at this
end LRN5
