section CHK2
variable {Q : xO → xS → Prop} {σ : xS} {B : Bk} {kn on : Nat → BitVec 64} {t : Nat}
theorem c_or {im : Bool} (h : RC B σ) (w : wfB B) (ht : t < bma B) (hn : 1 ≤ bfi B (t + 1) - bfi B t) (hk : wth B σ 45 kn t) (ho : wth B σ 46 on t)
    (q : ∀ r, r = orK (bful B t) (fun i => kn (bar B (bfi B t + i))) (fun i => on (bar B (bfi B t + i))) (if im then tnI (fun i => kn (bar B (bfi B t + i))) (bfi B (t + 1) - bfi B t) else fun _ => 0#64) (bfi B (t + 1) - bfi B t) → ∀ σ', lrnd σ t (r.1 ||| r.2) r.1 σ' → Q (.inl none) σ') : wp_Checker_workOutOr Q σ (nI t) (bI im) := by
  have hm := wf_ma w
  obtain ⟨f1, f2, f3⟩ := wf_fi w ht
  generalize hT : (if im then tnI (fun i => kn (bar B (bfi B t + i))) (bfi B (t + 1) - bfi B t) else fun _ => 0#64) = tn at q
  have key := loop_i (σ := BitVec 64 × BitVec 64) (fun n i a => w_Checker_workOutOr_39 Q n (nI t) (bI im) (jL a.1) (jL a.2) (nI (bfi B (t + 1) - 1)) (nI i) σ) (fun i a => bfi B t ≤ i ∧ a = orK (bful B t) (fun i => kn (bar B (bfi B t + i))) (fun i => on (bar B (bfi B t + i))) tn (i - bfi B t)) (bfi B (t + 1)) (fun n a hI => ?_) (fun n i a hi hI hs => ?_)
  · unfold wp_Checker_workOutOr
    simp (disch := omega) only [i32_lit, l64_lit, lc_eq, lc_ge, lc_le, lc_gt, lc_lt, jL_inj, jL_add, jL_sub, jL_mul, jL_neg, jL_and, jL_or, jL_xor, jL_mone, BitVec.xor_allOnes, nI_clamp, nI_ltI, nI_leI, nI_eq, nI_1, nI_add, nI_sub, nI_addm, nI_mul, vp_in_n, xi_pi, xi_pl, xl_pi, xl_pl, xb_pi, xb_pl, xqi_i, xql_l, xqv_v, xqi_e, xql_e, xqv_e, forall_eq, true_and, and_true, rc_fi h, rc_fu h]
    exact ⟨_, key (bfi B (t + 1) - bfi B t + 1) (bfi B t) (0#64, bful B t) (by omega) (by omega) ⟨by omega, by rw [Nat.sub_self]; rfl⟩⟩
  · unfold w_Checker_workOutOr_39
    simp (disch := omega) only [i32_lit, l64_lit, lc_eq, lc_ge, lc_le, lc_gt, lc_lt, jL_inj, jL_add, jL_sub, jL_mul, jL_neg, jL_and, jL_or, jL_xor, jL_mone, BitVec.xor_allOnes, nI_clamp, nI_ltI, nI_leI, nI_eq, nI_1, nI_add, nI_sub, nI_addm, nI_mul, vp_in_n, xi_pi, xi_pl, xl_pi, xl_pl, xb_pi, xb_pl, xqi_i, xql_l, xqv_v, xqi_e, xql_e, xqv_e, forall_eq, true_and, and_true]
    exact ⟨fun _ => c_learn (by omega) (q a hI.2), fun z => absurd (by omega) z⟩
  · unfold w_Checker_workOutOr_39
    obtain ⟨h1, h2⟩ := hI
    have ha := wf_ar w ht h1 hi
    have step : ∀ t0 : BitVec 64, tn (i - bfi B t) = t0 → w_Checker_workOutOr_80 Q (w_Checker_workOutOr_39 Q n) (nI t) (bI im) (jL a.1) (jL a.2) (nI (bfi B (t + 1) - 1)) (nI i) (nI (bar B i)) (jL t0) σ := by
      intro t0 e0
      unfold w_Checker_workOutOr_80
      simp (disch := omega) only [i32_lit, l64_lit, lc_eq, lc_ge, lc_le, lc_gt, lc_lt, jL_inj, jL_add, jL_sub, jL_mul, jL_neg, jL_and, jL_or, jL_xor, jL_mone, BitVec.xor_allOnes, nI_clamp, nI_ltI, nI_leI, nI_eq, nI_1, nI_add, nI_sub, nI_addm, nI_mul, vp_in_n, xi_pi, xi_pl, xl_pi, xl_pl, xb_pi, xb_pl, xqi_i, xql_l, xqv_v, xqi_e, xql_e, xqv_e, forall_eq, true_and, and_true, ar_cl w ht, ar_in w ht, hk _, ho _]
      refine hs (a.1 ||| (on (bar B i) ^^^ t0), a.2 &&& (kn (bar B i) &&& ~~~ (on (bar B i) ^^^ t0))) ⟨by omega, ?_⟩
      rw [show i + 1 - bfi B t = i - bfi B t + 1 by omega, h2]
      simp only [orK, show bfi B t + (i - bfi B t) = i by omega, e0]
    simp (disch := omega) only [i32_lit, l64_lit, lc_eq, lc_ge, lc_le, lc_gt, lc_lt, jL_inj, jL_add, jL_sub, jL_mul, jL_neg, jL_and, jL_or, jL_xor, jL_mone, BitVec.xor_allOnes, nI_clamp, nI_ltI, nI_leI, nI_eq, nI_1, nI_add, nI_sub, nI_addm, nI_mul, vp_in_n, xi_pi, xi_pl, xl_pi, xl_pl, xb_pi, xb_pl, xqi_i, xql_l, xqv_v, xqi_e, xql_e, xqv_e, forall_eq, true_and, and_true, rc_ar h, ar_cl w ht, ar_in w ht, hk _, bI_0]
    refine ⟨fun z => absurd z (by omega), fun _ => ⟨fun z => ?_, fun z => ⟨fun y => ?_, fun y => ?_⟩⟩⟩
    · unfold w_Checker_workOutOr_79
      refine step 0#64 ?_
      rw [← hT, z]
      rfl
    · unfold w_Checker_workOutOr_79
      refine step 0#64 ?_
      have : im = true := by cases im <;> simp_all
      rw [← hT, this, if_pos rfl, tnI, if_neg (by omega)]
    · refine step _ ?_
      have : im = true := by cases im <;> simp_all
      rw [← hT, this, if_pos rfl, tnI, if_pos (by omega), show bfi B t + (i - bfi B t) = i by omega]
end CHK2
