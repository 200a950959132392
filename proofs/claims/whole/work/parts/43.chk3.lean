section CHK3
variable {Q : xO → xS → Prop} {σ : xS} {B : Bk} {kn on : Nat → BitVec 64} {t : Nat}
theorem c_ofOne {a : Nat} (h : RC B σ) (w : wfB B) (ht : t < bma B) (ha : a < bma B) (hs : 1 ≤ bso B a) (hs2 : bso B a ≤ 64) (hl : bop B t = 10 → blo B t < 64) (ho : bop B t = 10 ∨ bop B t = 11 ∨ bop B t = 12 ∨ bop B t = 22) (ka : xl σ 45 a = jL (kn a)) (oa : xl σ 46 a = jL (on a))
    (q1 : bop B t = 10 → ∀ σ', lrnd σ t ((kn a >>> blo B t) &&& bful B t) (on a >>> blo B t) σ' → Q (.inl none) σ')
    (q2 : bop B t = 11 → ∀ σ', lrnd σ t (kn a ||| (bful B t &&& ~~~ bful B a)) (on a) σ' → Q (.inl none) σ')
    (q3 : bop B t = 22 → ∀ σ', lrnd σ t (lrun (kn a)) (- on a) σ' → Q (.inl none) σ')
    (q4 : bop B t = 12 → ∀ σ', lrnd σ t (sgn (kn a) (bso B a) &&& bful B t) (sgn (on a) (bso B a)) σ' → Q (.inl none) σ') : wp_Checker_workOutOfOne Q σ (nI t) (nI a) := by
  have hm := wf_ma w
  unfold wp_Checker_workOutOfOne
  simp (disch := omega) only [i32_lit, l64_lit, lc_eq, lc_ge, lc_le, lc_gt, lc_lt, jL_inj, jL_add, jL_sub, jL_mul, jL_neg, jL_and, jL_or, jL_xor, jL_mone, BitVec.xor_allOnes, nI_clamp, nI_ltI, nI_leI, nI_eq, nI_1, nI_add, nI_sub, nI_addm, nI_mul, vp_in_n, xi_pi, xi_pl, xl_pi, xl_pl, xb_pi, xb_pl, xqi_i, xql_l, xqv_v, xqi_e, xql_e, xqv_e, forall_eq, true_and, and_true, rc_so h, rc_op h, rc_lo h, rc_fu h, ka, oa]
  refine ⟨fun z => ?_, fun z => ?_, fun z => ?_, fun z => ?_⟩
  · rw [jL_ushr _ (hl z), jL_ushr _ (hl z), jL_and]
    exact c_learn (by omega) (q1 z)
  · exact c_learn (by omega) (q2 z)
  · refine p_lowestRun ?_
    simp (disch := omega) only [i32_lit, l64_lit, lc_eq, lc_ge, lc_le, lc_gt, lc_lt, jL_inj, jL_add, jL_sub, jL_mul, jL_neg, jL_and, jL_or, jL_xor, jL_mone, BitVec.xor_allOnes, nI_clamp, nI_ltI, nI_leI, nI_eq, nI_1, nI_add, nI_sub, nI_addm, nI_mul, vp_in_n, xi_pi, xi_pl, xl_pi, xl_pl, xb_pi, xb_pl, xqi_i, xql_l, xqv_v, xqi_e, xql_e, xqv_e, forall_eq, true_and, and_true, oa]
    exact c_learn (by omega) (q3 z)
  · refine p_signed hs hs2 ?_
    simp (disch := omega) only [i32_lit, l64_lit, lc_eq, lc_ge, lc_le, lc_gt, lc_lt, jL_inj, jL_add, jL_sub, jL_mul, jL_neg, jL_and, jL_or, jL_xor, jL_mone, BitVec.xor_allOnes, nI_clamp, nI_ltI, nI_leI, nI_eq, nI_1, nI_add, nI_sub, nI_addm, nI_mul, vp_in_n, xi_pi, xi_pl, xl_pi, xl_pl, xb_pi, xb_pl, xqi_i, xql_l, xqv_v, xqi_e, xql_e, xqv_e, forall_eq, true_and, and_true, rc_fu h, oa]
    refine p_signed hs hs2 ?_
    simp (disch := omega) only [i32_lit, l64_lit, lc_eq, lc_ge, lc_le, lc_gt, lc_lt, jL_inj, jL_add, jL_sub, jL_mul, jL_neg, jL_and, jL_or, jL_xor, jL_mone, BitVec.xor_allOnes, nI_clamp, nI_ltI, nI_leI, nI_eq, nI_1, nI_add, nI_sub, nI_addm, nI_mul, vp_in_n, xi_pi, xi_pl, xl_pi, xl_pl, xb_pi, xb_pl, xqi_i, xql_l, xqv_v, xqi_e, xql_e, xqv_e, forall_eq, true_and, and_true, rc_fu h]
    exact c_learn (by omega) (q4 (by omega))
theorem c_difference {a b : Nat} (w : wfB B) (ht : t < bma B) (ha : a < bma B) (hb : b < bma B) (ka : xl σ 45 a = jL (kn a)) (kb : xl σ 45 b = jL (kn b)) (oa : xl σ 46 a = jL (on a)) (ob : xl σ 46 b = jL (on b))
    (q : ∀ σ', lrnd σ t (lrun (kn a &&& kn b)) (on a - on b) σ' → Q (.inl none) σ') : wp_Checker_workOutDifference Q σ (nI t) (nI a) (nI b) := by
  have hm := wf_ma w
  unfold wp_Checker_workOutDifference
  simp (disch := omega) only [i32_lit, l64_lit, lc_eq, lc_ge, lc_le, lc_gt, lc_lt, jL_inj, jL_add, jL_sub, jL_mul, jL_neg, jL_and, jL_or, jL_xor, jL_mone, BitVec.xor_allOnes, nI_clamp, nI_ltI, nI_leI, nI_eq, nI_1, nI_add, nI_sub, nI_addm, nI_mul, vp_in_n, xi_pi, xi_pl, xl_pi, xl_pl, xb_pi, xb_pl, xqi_i, xql_l, xqv_v, xqi_e, xql_e, xqv_e, forall_eq, true_and, and_true, ka, kb]
  refine p_lowestRun ?_
  simp (disch := omega) only [i32_lit, l64_lit, lc_eq, lc_ge, lc_le, lc_gt, lc_lt, jL_inj, jL_add, jL_sub, jL_mul, jL_neg, jL_and, jL_or, jL_xor, jL_mone, BitVec.xor_allOnes, nI_clamp, nI_ltI, nI_leI, nI_eq, nI_1, nI_add, nI_sub, nI_addm, nI_mul, vp_in_n, xi_pi, xi_pl, xl_pi, xl_pl, xb_pi, xb_pl, xqi_i, xql_l, xqv_v, xqi_e, xql_e, xqv_e, forall_eq, true_and, and_true, oa, ob]
  exact c_learn (by omega) q
theorem c_division {a b : Nat} (h : RC B σ) (w : wfB B) (ht : t < bma B) (ha : a < bma B) (hb : b < bma B) (hs : 1 ≤ bso B t) (hs2 : bso B t ≤ 64) (ho : 29 ≤ bop B t ∧ bop B t ≤ 32) (ka : xl σ 45 a = jL (kn a)) (kb : xl σ 45 b = jL (kn b)) (oa : xl σ 46 a = jL (on a)) (ob : xl σ 46 b = jL (on b))
    (q1 : kn a = bful B a → kn b = bful B b → ∀ σ', lrnd σ t (bful B t) (two (bop B t) (on a) (on b) (bso B t)) σ' → Q (.inl none) σ')
    (q0 : ¬ (kn a = bful B a ∧ kn b = bful B b) → ∀ σ', lrnd σ t 0#64 0#64 σ' → Q (.inl none) σ') : wp_Checker_workOutDivision Q σ (nI t) (nI a) (nI b) := by
  have hm := wf_ma w
  unfold wp_Checker_workOutDivision
  refine c_isKnown h w ha ka (fun z => ?_) (fun z => ?_)
  · refine ⟨fun y => absurd y (by decide), fun _ => ?_⟩
    refine c_isKnown h w hb kb (fun z2 => ?_) (fun z2 => ?_)
    · refine ⟨fun y => absurd y (by decide), fun _ => ?_⟩
      simp (disch := omega) only [i32_lit, l64_lit, lc_eq, lc_ge, lc_le, lc_gt, lc_lt, jL_inj, jL_add, jL_sub, jL_mul, jL_neg, jL_and, jL_or, jL_xor, jL_mone, BitVec.xor_allOnes, nI_clamp, nI_ltI, nI_leI, nI_eq, nI_1, nI_add, nI_sub, nI_addm, nI_mul, vp_in_n, xi_pi, xi_pl, xl_pi, xl_pl, xb_pi, xb_pl, xqi_i, xql_l, xqv_v, xqi_e, xql_e, xqv_e, forall_eq, true_and, and_true, rc_op h, rc_so h, rc_fu h, oa, ob]
      refine p_two (by omega) (by omega) hs hs2 ?_
      simp (disch := omega) only [i32_lit, l64_lit, lc_eq, lc_ge, lc_le, lc_gt, lc_lt, jL_inj, jL_add, jL_sub, jL_mul, jL_neg, jL_and, jL_or, jL_xor, jL_mone, BitVec.xor_allOnes, nI_clamp, nI_ltI, nI_leI, nI_eq, nI_1, nI_add, nI_sub, nI_addm, nI_mul, vp_in_n, xi_pi, xi_pl, xl_pi, xl_pl, xb_pi, xb_pl, xqi_i, xql_l, xqv_v, xqi_e, xql_e, xqv_e, forall_eq, true_and, and_true]
      exact c_learn (by omega) (q1 z z2)
    · refine ⟨fun _ => ?_, fun y => absurd rfl y⟩
      unfold w_Checker_workOutDivision_66
      simp (disch := omega) only [i32_lit, l64_lit, lc_eq, lc_ge, lc_le, lc_gt, lc_lt, jL_inj, jL_add, jL_sub, jL_mul, jL_neg, jL_and, jL_or, jL_xor, jL_mone, BitVec.xor_allOnes, nI_clamp, nI_ltI, nI_leI, nI_eq, nI_1, nI_add, nI_sub, nI_addm, nI_mul, vp_in_n, xi_pi, xi_pl, xl_pi, xl_pl, xb_pi, xb_pl, xqi_i, xql_l, xqv_v, xqi_e, xql_e, xqv_e, forall_eq, true_and, and_true]
      exact c_learn (by omega) (q0 (fun y => z2 y.2))
  · refine ⟨fun _ => ?_, fun y => absurd rfl y⟩
    unfold w_Checker_workOutDivision_66
    simp (disch := omega) only [i32_lit, l64_lit, lc_eq, lc_ge, lc_le, lc_gt, lc_lt, jL_inj, jL_add, jL_sub, jL_mul, jL_neg, jL_and, jL_or, jL_xor, jL_mone, BitVec.xor_allOnes, nI_clamp, nI_ltI, nI_leI, nI_eq, nI_1, nI_add, nI_sub, nI_addm, nI_mul, vp_in_n, xi_pi, xi_pl, xl_pi, xl_pl, xb_pi, xb_pl, xqi_i, xql_l, xqv_v, xqi_e, xql_e, xqv_e, forall_eq, true_and, and_true]
    exact c_learn (by omega) (q0 (fun y => z y.1))
theorem c_select {a b : Nat} (h : RC B σ) (w : wfB B) (ht : t < bma B) (ha : a < bma B) (hb : b < bma B) (hs : 128 ≤ bso B a) (hz : szs (bso B a) ≤ 64) (hi : kn b = bful B b → (on b).toNat < 2 ^ (bso B a / 128)) (ka : xl σ 45 a = jL (kn a)) (kb : xl σ 45 b = jL (kn b)) (oa : xl σ 46 a = jL (on a)) (ob : xl σ 46 b = jL (on b))
    (q1 : kn b = bful B b → ∀ σ', lrnd σ t ((kn a >>> csh (bso B a) (on b).toNat) &&& bful B t) (on a >>> csh (bso B a) (on b).toNat) σ' → Q (.inl none) σ')
    (q0 : ¬ kn b = bful B b → ∀ σ', lrnd σ t 0#64 0#64 σ' → Q (.inl none) σ') : wp_Checker_workOutSelect Q σ (nI t) (nI a) (nI b) := by
  have hm := wf_ma w
  have hk := wf_so w ha
  unfold wp_Checker_workOutSelect
  refine c_isKnown h w hb kb (fun z => ?_) (fun z => ?_)
  · refine ⟨fun y => absurd y (by decide), fun _ => ?_⟩
    have hc := csh_lt (c := (on b).toNat) hk hs
    simp (disch := omega) only [i32_lit, l64_lit, lc_eq, lc_ge, lc_le, lc_gt, lc_lt, jL_inj, jL_add, jL_sub, jL_mul, jL_neg, jL_and, jL_or, jL_xor, jL_mone, BitVec.xor_allOnes, nI_clamp, nI_ltI, nI_leI, nI_eq, nI_1, nI_add, nI_sub, nI_addm, nI_mul, vp_in_n, xi_pi, xi_pl, xl_pi, xl_pl, xb_pi, xb_pl, xqi_i, xql_l, xqv_v, xqi_e, xql_e, xqv_e, forall_eq, true_and, and_true, rc_so h, ob]
    refine p_cellShift hk (hi z) ?_
    simp (disch := omega) only [i32_lit, l64_lit, lc_eq, lc_ge, lc_le, lc_gt, lc_lt, jL_inj, jL_add, jL_sub, jL_mul, jL_neg, jL_and, jL_or, jL_xor, jL_mone, BitVec.xor_allOnes, nI_clamp, nI_ltI, nI_leI, nI_eq, nI_1, nI_add, nI_sub, nI_addm, nI_mul, vp_in_n, xi_pi, xi_pl, xl_pi, xl_pl, xb_pi, xb_pl, xqi_i, xql_l, xqv_v, xqi_e, xql_e, xqv_e, forall_eq, true_and, and_true, rc_fu h, ka, oa, jL_ushr _ (show csh (bso B a) (on b).toNat < 64 by omega)]
    exact c_learn (by omega) (q1 z)
  · refine ⟨fun _ => ?_, fun y => absurd rfl y⟩
    simp (disch := omega) only [i32_lit, l64_lit, lc_eq, lc_ge, lc_le, lc_gt, lc_lt, jL_inj, jL_add, jL_sub, jL_mul, jL_neg, jL_and, jL_or, jL_xor, jL_mone, BitVec.xor_allOnes, nI_clamp, nI_ltI, nI_leI, nI_eq, nI_1, nI_add, nI_sub, nI_addm, nI_mul, vp_in_n, xi_pi, xi_pl, xl_pi, xl_pl, xb_pi, xb_pl, xqi_i, xql_l, xqv_v, xqi_e, xql_e, xqv_e, forall_eq, true_and, and_true]
    exact c_learn (by omega) (q0 z)
theorem c_store {a b c : Nat} (h : RC B σ) (w : wfB B) (ht : t < bma B) (ha : a < bma B) (hb : b < bma B) (hc : c < bma B) (hs : 128 ≤ bso B t) (hz : szs (bso B t) ≤ 64) (hi : kn b = bful B b → (on b).toNat < 2 ^ (bso B t / 128)) (ka : xl σ 45 a = jL (kn a)) (kb : xl σ 45 b = jL (kn b)) (kc : xl σ 45 c = jL (kn c)) (oa : xl σ 46 a = jL (on a)) (ob : xl σ 46 b = jL (on b)) (oc : xl σ 46 c = jL (on c))
    (q1 : kn b = bful B b → ∀ σ', lrnd σ t ((kn a &&& ~~~ (bful B c <<< csh (bso B t) (on b).toNat)) ||| (kn c <<< csh (bso B t) (on b).toNat)) ((on a &&& ~~~ (bful B c <<< csh (bso B t) (on b).toNat)) ||| (on c <<< csh (bso B t) (on b).toNat)) σ' → Q (.inl none) σ')
    (q0 : ¬ kn b = bful B b → ∀ σ', lrnd σ t 0#64 0#64 σ' → Q (.inl none) σ') : wp_Checker_workOutStore Q σ (nI t) (nI a) (nI b) (nI c) := by
  have hm := wf_ma w
  have hk := wf_so w ht
  unfold wp_Checker_workOutStore
  refine c_isKnown h w hb kb (fun z => ?_) (fun z => ?_)
  · refine ⟨fun y => absurd y (by decide), fun _ => ?_⟩
    have hl := csh_lt (c := (on b).toNat) hk hs
    simp (disch := omega) only [i32_lit, l64_lit, lc_eq, lc_ge, lc_le, lc_gt, lc_lt, jL_inj, jL_add, jL_sub, jL_mul, jL_neg, jL_and, jL_or, jL_xor, jL_mone, BitVec.xor_allOnes, nI_clamp, nI_ltI, nI_leI, nI_eq, nI_1, nI_add, nI_sub, nI_addm, nI_mul, vp_in_n, xi_pi, xi_pl, xl_pi, xl_pl, xb_pi, xb_pl, xqi_i, xql_l, xqv_v, xqi_e, xql_e, xqv_e, forall_eq, true_and, and_true, rc_so h, ob]
    refine p_cellShift hk (hi z) ?_
    simp (disch := omega) only [i32_lit, l64_lit, lc_eq, lc_ge, lc_le, lc_gt, lc_lt, jL_inj, jL_add, jL_sub, jL_mul, jL_neg, jL_and, jL_or, jL_xor, jL_mone, BitVec.xor_allOnes, nI_clamp, nI_ltI, nI_leI, nI_eq, nI_1, nI_add, nI_sub, nI_addm, nI_mul, vp_in_n, xi_pi, xi_pl, xl_pi, xl_pl, xb_pi, xb_pl, xqi_i, xql_l, xqv_v, xqi_e, xql_e, xqv_e, forall_eq, true_and, and_true, rc_fu h, ka, oa, kc, oc, jL_shl _ (show csh (bso B t) (on b).toNat < 64 by omega)]
    exact c_learn (by omega) (q1 z)
  · refine ⟨fun _ => ?_, fun y => absurd rfl y⟩
    simp (disch := omega) only [i32_lit, l64_lit, lc_eq, lc_ge, lc_le, lc_gt, lc_lt, jL_inj, jL_add, jL_sub, jL_mul, jL_neg, jL_and, jL_or, jL_xor, jL_mone, BitVec.xor_allOnes, nI_clamp, nI_ltI, nI_leI, nI_eq, nI_1, nI_add, nI_sub, nI_addm, nI_mul, vp_in_n, xi_pi, xi_pl, xl_pi, xl_pl, xb_pi, xb_pl, xqi_i, xql_l, xqv_v, xqi_e, xql_e, xqv_e, forall_eq, true_and, and_true]
    exact c_learn (by omega) (q0 z)
theorem c_shift {a b : Nat} (h : RC B σ) (w : wfB B) (ht : t < bma B) (ha : a < bma B) (hb : b < bma B) (hs : 1 ≤ bso B t) (hs2 : bso B t ≤ 64) (ho : bop B t < 64) (ka : xl σ 45 a = jL (kn a)) (kb : xl σ 45 b = jL (kn b)) (oa : xl σ 46 a = jL (on a)) (ob : xl σ 46 b = jL (on b))
    (q0 : ¬ kn b = bful B b → ∀ σ', lrnd σ t 0#64 0#64 σ' → Q (.inl none) σ')
    (q1 : kn b = bful B b → bop B t = 35 → ∀ σ', lrnd σ t ((sgn (kn a) (bso B t)).sshiftRight (sshf (on b) (bso B t)) &&& bful B t) ((sgn (on a) (bso B t)).sshiftRight (sshf (on b) (bso B t))) σ' → Q (.inl none) σ')
    (q2 : kn b = bful B b → ¬ bop B t = 35 → ¬ (on b).toNat < bso B t → ∀ σ', lrnd σ t (bful B t) 0#64 σ' → Q (.inl none) σ')
    (q3 : kn b = bful B b → bop B t = 33 → (on b).toNat < bso B t → ∀ σ', lrnd σ t (((kn a <<< (on b).toNat) ||| bm (on b).toNat) &&& bful B t) (on a <<< (on b).toNat) σ' → Q (.inl none) σ')
    (q4 : kn b = bful B b → ¬ bop B t = 35 → ¬ bop B t = 33 → (on b).toNat < bso B t → ∀ σ', lrnd σ t ((kn a >>> (on b).toNat) ||| (bful B t &&& ~~~ (bful B t >>> (on b).toNat))) (on a >>> (on b).toNat) σ' → Q (.inl none) σ') : wp_Checker_workOutShift Q σ (nI t) (nI a) (nI b) := by
  have hm := wf_ma w
  have wn : (BitVec.ofNat 64 (bso B t)).toNat = bso B t := by rw [BitVec.toNat_ofNat]; omega
  have sl : sshf (on b) (bso B t) < 64 := by unfold sshf; split <;> omega
  unfold wp_Checker_workOutShift
  simp (disch := omega) only [i32_lit, l64_lit, lc_eq, lc_ge, lc_le, lc_gt, lc_lt, jL_inj, jL_add, jL_sub, jL_mul, jL_neg, jL_and, jL_or, jL_xor, jL_mone, BitVec.xor_allOnes, nI_clamp, nI_ltI, nI_leI, nI_eq, nI_1, nI_add, nI_sub, nI_addm, nI_mul, vp_in_n, xi_pi, xi_pl, xl_pi, xl_pl, xb_pi, xb_pl, xqi_i, xql_l, xqv_v, xqi_e, xql_e, xqv_e, forall_eq, true_and, and_true, rc_so h, rc_fu h, ob]
  refine p_signShift hs hs2 ?_
  simp (disch := omega) only [i32_lit, l64_lit, lc_eq, lc_ge, lc_le, lc_gt, lc_lt, jL_inj, jL_add, jL_sub, jL_mul, jL_neg, jL_and, jL_or, jL_xor, jL_mone, BitVec.xor_allOnes, nI_clamp, nI_ltI, nI_leI, nI_eq, nI_1, nI_add, nI_sub, nI_addm, nI_mul, vp_in_n, xi_pi, xi_pl, xl_pi, xl_pl, xb_pi, xb_pl, xqi_i, xql_l, xqv_v, xqi_e, xql_e, xqv_e, forall_eq, true_and, and_true]
  refine c_isKnown h w hb kb (fun z => ?_) (fun z => ?_)
  · refine ⟨fun _ => ?_, fun y => absurd y (by decide)⟩
    simp (disch := omega) only [i32_lit, l64_lit, lc_eq, lc_ge, lc_le, lc_gt, lc_lt, jL_inj, jL_add, jL_sub, jL_mul, jL_neg, jL_and, jL_or, jL_xor, jL_mone, BitVec.xor_allOnes, nI_clamp, nI_ltI, nI_leI, nI_eq, nI_1, nI_add, nI_sub, nI_addm, nI_mul, vp_in_n, xi_pi, xi_pl, xl_pi, xl_pl, xb_pi, xb_pl, xqi_i, xql_l, xqv_v, xqi_e, xql_e, xqv_e, forall_eq, true_and, and_true, rc_op h, ob]
    refine ⟨fun y => ?_, fun y => ?_⟩
    · rw [jL_i2l (by omega)]
      refine p_less ?_
      rw [wn]
      by_cases e : (on b).toNat < bso B t
      · rw [if_pos e]
        have se : sshf (on b) (bso B t) = (on b).toNat := if_pos e
        refine ⟨fun _ => ?_, fun x => absurd x (by decide)⟩
        rw [se]
        simp (disch := omega) only [i32_lit, l64_lit, lc_eq, lc_ge, lc_le, lc_gt, lc_lt, jL_inj, jL_add, jL_sub, jL_mul, jL_neg, jL_and, jL_or, jL_xor, jL_mone, BitVec.xor_allOnes, nI_clamp, nI_ltI, nI_leI, nI_eq, nI_1, nI_add, nI_sub, nI_addm, nI_mul, vp_in_n, xi_pi, xi_pl, xl_pi, xl_pl, xb_pi, xb_pl, xqi_i, xql_l, xqv_v, xqi_e, xql_e, xqv_e, forall_eq, true_and, and_true, rc_op h, ka, oa, jL_shl _ (show (on b).toNat < 64 by omega), jL_ushr _ (show (on b).toNat < 64 by omega)]
        refine ⟨fun x => ?_, fun x => ?_⟩
        · exact c_learn (by omega) (q4 z y x e)
        · refine p_mask (by omega) ?_
          simp (disch := omega) only [i32_lit, l64_lit, lc_eq, lc_ge, lc_le, lc_gt, lc_lt, jL_inj, jL_add, jL_sub, jL_mul, jL_neg, jL_and, jL_or, jL_xor, jL_mone, BitVec.xor_allOnes, nI_clamp, nI_ltI, nI_leI, nI_eq, nI_1, nI_add, nI_sub, nI_addm, nI_mul, vp_in_n, xi_pi, xi_pl, xl_pi, xl_pl, xb_pi, xb_pl, xqi_i, xql_l, xqv_v, xqi_e, xql_e, xqv_e, forall_eq, true_and, and_true, oa, jL_shl _ (show (on b).toNat < 64 by omega)]
          exact c_learn (by omega) (q3 z x e)
      · rw [if_neg e]
        refine ⟨fun x => absurd rfl x, fun _ => ?_⟩
        exact c_learn (by omega) (q2 z y e)
    · simp (disch := omega) only [i32_lit, l64_lit, lc_eq, lc_ge, lc_le, lc_gt, lc_lt, jL_inj, jL_add, jL_sub, jL_mul, jL_neg, jL_and, jL_or, jL_xor, jL_mone, BitVec.xor_allOnes, nI_clamp, nI_ltI, nI_leI, nI_eq, nI_1, nI_add, nI_sub, nI_addm, nI_mul, vp_in_n, xi_pi, xi_pl, xl_pi, xl_pl, xb_pi, xb_pl, xqi_i, xql_l, xqv_v, xqi_e, xql_e, xqv_e, forall_eq, true_and, and_true, ka]
      refine p_signed hs hs2 ?_
      simp (disch := omega) only [i32_lit, l64_lit, lc_eq, lc_ge, lc_le, lc_gt, lc_lt, jL_inj, jL_add, jL_sub, jL_mul, jL_neg, jL_and, jL_or, jL_xor, jL_mone, BitVec.xor_allOnes, nI_clamp, nI_ltI, nI_leI, nI_eq, nI_1, nI_add, nI_sub, nI_addm, nI_mul, vp_in_n, xi_pi, xi_pl, xl_pi, xl_pl, xb_pi, xb_pl, xqi_i, xql_l, xqv_v, xqi_e, xql_e, xqv_e, forall_eq, true_and, and_true, oa]
      refine p_signed hs hs2 ?_
      simp (disch := omega) only [i32_lit, l64_lit, lc_eq, lc_ge, lc_le, lc_gt, lc_lt, jL_inj, jL_add, jL_sub, jL_mul, jL_neg, jL_and, jL_or, jL_xor, jL_mone, BitVec.xor_allOnes, nI_clamp, nI_ltI, nI_leI, nI_eq, nI_1, nI_add, nI_sub, nI_addm, nI_mul, vp_in_n, xi_pi, xi_pl, xl_pi, xl_pl, xb_pi, xb_pl, xqi_i, xql_l, xqv_v, xqi_e, xql_e, xqv_e, forall_eq, true_and, and_true, jL_sshr _ sl]
      exact c_learn (by omega) (q1 z y)
  · refine ⟨fun y => absurd rfl y, fun _ => ?_⟩
    exact c_learn (by omega) (q0 z)
end CHK3
