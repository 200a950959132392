section CHK6
variable {Q : xO → xS → Prop} {σ : xS} {B : Bk} {kn on : Nat → BitVec 64} {t : Nat}
theorem c_workOut (h : RC B σ) (w : wfB B) (ht : t < bma B) (hS : bsz B ≤ 16) (hk : wth B σ 45 kn t) (ho : wth B σ 46 on t) (n7 : bop B t ≠ 47) (hi : 2 ≤ bfi B (t + 1) - bfi B t → kn (bar B (bfi B t + 1)) = bful B (bar B (bfi B t + 1)) → (on (bar B (bfi B t + 1))).toNat < 2 ^ min 64 (szs (bso B (bar B (bfi B t + 1)))))
    (q : ∀ σ', lrnd σ t (chk B kn on t).1 (chk B kn on t).2 σ' → Q (.inl none) σ') : wp_Checker_workOut Q σ (nI t) (nI (bfi B t)) := by
  have hm := wf_ma w
  obtain ⟨f1, f2, f3⟩ := wf_fi w ht
  have ty := wf_ty w ht
  have hop := typ_op ty
  have am : ∀ i, bfi B t ≤ i → i < bfi B (t + 1) → bar B i < bma B := fun i h1 h2 => by have := wf_ar w ht h1 h2; omega
  unfold wp_Checker_workOut
  simp (disch := omega) only [i32_lit, l64_lit, lc_eq, lc_ge, lc_le, lc_gt, lc_lt, jL_inj, jL_add, jL_sub, jL_mul, jL_neg, jL_and, jL_or, jL_xor, jL_mone, BitVec.xor_allOnes, nI_clamp, nI_ltI, nI_leI, nI_eq, nI_1, nI_add, nI_sub, nI_addm, nI_mul, vp_in_n, xi_pi, xi_pl, xl_pi, xl_pl, xb_pi, xb_pl, xqi_i, xql_l, xqv_v, xqi_e, xql_e, xqv_e, forall_eq, true_and, and_true, rc_op h]
  refine ⟨fun z => ?_, fun z => ?_, fun z => ?_, fun z => ?_, fun z => ?_, fun z => ?_, fun z => ?_, fun z => ?_, fun z => ?_, fun z => ?_, fun z => ?_, fun z => ?_, fun z => ?_, fun z => ?_, fun z => ?_, fun z => ?_, fun z => absurd z n7, fun z => ?_, fun z => ?_⟩
  · have y : bfi B (t + 1) - bfi B t = 1 ∧ 1 ≤ bso B (bar B (bfi B t)) ∧ bso B (bar B (bfi B t)) ≤ 64 ∧ (bop B t = 10 → blo B t < 64) := by
      rcases z with z | z | z | z
      · have := ty_10 ty z; omega
      · have := ty_11 ty z; omega
      · have := ty_12 ty z; omega
      · have := ty_22 ty z; omega
    simp (disch := omega) only [i32_lit, l64_lit, lc_eq, lc_ge, lc_le, lc_gt, lc_lt, jL_inj, jL_add, jL_sub, jL_mul, jL_neg, jL_and, jL_or, jL_xor, jL_mone, BitVec.xor_allOnes, nI_clamp, nI_ltI, nI_leI, nI_eq, nI_1, nI_add, nI_sub, nI_addm, nI_mul, vp_in_n, xi_pi, xi_pl, xl_pi, xl_pl, xb_pi, xb_pl, xqi_i, xql_l, xqv_v, xqi_e, xql_e, xqv_e, forall_eq, true_and, and_true, rc_ar h]
    refine c_ofOne (kn := kn) (on := on) h w ht (am _ (by omega) (by omega)) y.2.1 y.2.2.1 y.2.2.2 z (hk _ (by omega) (by omega)) (ho _ (by omega) (by omega)) (fun z => ?_) (fun z => ?_) (fun z => ?_) (fun z => ?_)
    · rw [ck_10 z] at q; exact q
    · rw [ck_11 z] at q; exact q
    · rw [ck_22 z] at q; exact q
    · rw [ck_12 z] at q; exact q
  · have y : bfi B (t + 1) - bfi B t = 1 := by
      rcases z with z | z
      · exact (ty_13 ty z).1
      · exact (ty_21 ty z).1
    simp (disch := omega) only [i32_lit, l64_lit, lc_eq, lc_ge, lc_le, lc_gt, lc_lt, jL_inj, jL_add, jL_sub, jL_mul, jL_neg, jL_and, jL_or, jL_xor, jL_mone, BitVec.xor_allOnes, nI_clamp, nI_ltI, nI_leI, nI_eq, nI_1, nI_add, nI_sub, nI_addm, nI_mul, vp_in_n, xi_pi, xi_pl, xl_pi, xl_pl, xb_pi, xb_pl, xqi_i, xql_l, xqv_v, xqi_e, xql_e, xqv_e, forall_eq, true_and, and_true, rc_ar h, ar_cl w ht, ar_in w ht, hk _, ho _]
    rcases z with z | z
    · rw [ck_13 z] at q; exact c_learn (by omega) q
    · rw [ck_21 z] at q; exact c_learn (by omega) q
  · rcases z with z | z
    · rw [ck_14 z] at q; exact c_and h w ht hk ho (fun r e => by subst e; exact q)
    · rw [ck_23 z] at q; exact c_and h w ht hk ho (fun r e => by subst e; exact q)
  · have y : 1 ≤ bfi B (t + 1) - bfi B t := by
      rcases z with z | z | z
      · have := ty_15 ty z; omega
      · have := ty_17 ty z; omega
      · have := ty_24 ty z; omega
    unfold w_Checker_workOut_270
    refine ⟨fun y2 => ?_, fun y2 => ?_⟩
    · refine c_or (im := false) h w ht y hk ho (fun r e => ?_)
      rcases z with z | z | z
      · rw [ck_15 z] at q; subst e; exact q
      · exact absurd z y2
      · rw [ck_24 z] at q; subst e; exact q
    · rw [ck_17 y2] at q
      exact c_or (im := true) h w ht y hk ho (fun r e => by subst e; exact q)
  · rcases z with z | z
    · rw [ck_16 z] at q; exact c_xor h w ht hk ho (fun r e => by subst e; exact q)
    · rw [ck_25 z] at q; exact c_xor h w ht hk ho (fun r e => by subst e; exact q)
  · have y := ty_18 ty z
    rw [ck_18 z] at q
    simp (disch := omega) only [i32_lit, l64_lit, lc_eq, lc_ge, lc_le, lc_gt, lc_lt, jL_inj, jL_add, jL_sub, jL_mul, jL_neg, jL_and, jL_or, jL_xor, jL_mone, BitVec.xor_allOnes, nI_clamp, nI_ltI, nI_leI, nI_eq, nI_1, nI_add, nI_sub, nI_addm, nI_mul, vp_in_n, xi_pi, xi_pl, xl_pi, xl_pl, xb_pi, xb_pl, xqi_i, xql_l, xqv_v, xqi_e, xql_e, xqv_e, forall_eq, true_and, and_true, rc_ar h]
    refine c_ite (kn := kn) (on := on) h w ht (am _ (by omega) (by omega)) (am _ (by omega) (by omega)) (am _ (by omega) (by omega)) (hk _ (by omega) (by omega)) (hk _ (by omega) (by omega)) (hk _ (by omega) (by omega)) (ho _ (by omega) (by omega)) (ho _ (by omega) (by omega)) (ho _ (by omega) (by omega)) (fun c1 c2 => ?_) (fun c1 c2 => ?_) (fun c1 => ?_)
    · rw [if_pos c1, if_pos c2] at q; exact q
    · rw [if_pos c1, if_neg c2] at q; exact q
    · rw [if_neg c1] at q; exact q
  · have y := ty_19 ty z
    rw [ck_19 z] at q
    exact c_equal h w ht (by omega) hk ho (fun r e => by subst e; exact q)
  · have y := ty_20 ty z
    rw [ck_20 z] at q
    exact c_distinct h w ht (by omega) hk ho (fun r e => by subst e; exact q)
  · rw [ck_26 z] at q
    exact c_sum h w ht hk ho (fun r e => by subst e; exact q)
  · have y := ty_27 ty z
    rw [ck_27 z] at q
    exact c_product h w ht (by omega) (by omega) hk ho (fun r e => by subst e; exact q)
  · have y := ty_28 ty z
    rw [ck_28 z] at q
    simp (disch := omega) only [i32_lit, l64_lit, lc_eq, lc_ge, lc_le, lc_gt, lc_lt, jL_inj, jL_add, jL_sub, jL_mul, jL_neg, jL_and, jL_or, jL_xor, jL_mone, BitVec.xor_allOnes, nI_clamp, nI_ltI, nI_leI, nI_eq, nI_1, nI_add, nI_sub, nI_addm, nI_mul, vp_in_n, xi_pi, xi_pl, xl_pi, xl_pl, xb_pi, xb_pl, xqi_i, xql_l, xqv_v, xqi_e, xql_e, xqv_e, forall_eq, true_and, and_true, rc_ar h]
    exact c_difference (kn := kn) (on := on) w ht (am _ (by omega) (by omega)) (am _ (by omega) (by omega)) (hk _ (by omega) (by omega)) (hk _ (by omega) (by omega)) (ho _ (by omega) (by omega)) (ho _ (by omega) (by omega)) q
  · have y : bfi B (t + 1) - bfi B t = 2 ∧ 1 ≤ bso B t ∧ bso B t ≤ 64 := by
      rcases z with z | z | z | z
      · have := ty_29 ty z; omega
      · have := ty_30 ty z; omega
      · have := ty_31 ty z; omega
      · have := ty_32 ty z; omega
    have e : chk B kn on t = if kn (bar B (bfi B t)) = bful B (bar B (bfi B t)) ∧ kn (bar B (bfi B t + 1)) = bful B (bar B (bfi B t + 1)) then (bful B t, two (bop B t) (on (bar B (bfi B t))) (on (bar B (bfi B t + 1))) (bso B t)) else (0#64, 0#64) := by
      rcases z with z | z | z | z
      · rw [ck_29 z, z]
      · rw [ck_30 z, z]
      · rw [ck_31 z, z]
      · rw [ck_32 z, z]
    rw [e] at q
    simp (disch := omega) only [i32_lit, l64_lit, lc_eq, lc_ge, lc_le, lc_gt, lc_lt, jL_inj, jL_add, jL_sub, jL_mul, jL_neg, jL_and, jL_or, jL_xor, jL_mone, BitVec.xor_allOnes, nI_clamp, nI_ltI, nI_leI, nI_eq, nI_1, nI_add, nI_sub, nI_addm, nI_mul, vp_in_n, xi_pi, xi_pl, xl_pi, xl_pl, xb_pi, xb_pl, xqi_i, xql_l, xqv_v, xqi_e, xql_e, xqv_e, forall_eq, true_and, and_true, rc_ar h]
    refine c_division (kn := kn) (on := on) h w ht (am _ (by omega) (by omega)) (am _ (by omega) (by omega)) y.2.1 y.2.2 (by omega) (hk _ (by omega) (by omega)) (hk _ (by omega) (by omega)) (ho _ (by omega) (by omega)) (ho _ (by omega) (by omega)) (fun c1 c2 => ?_) (fun c => ?_)
    · rw [if_pos ⟨c1, c2⟩] at q; exact q
    · rw [if_neg c] at q; exact q
  · have y : bfi B (t + 1) - bfi B t = 2 ∧ 1 ≤ bso B t ∧ bso B t ≤ 64 := by
      rcases z with z | z | z
      · have := ty_33 ty z; omega
      · have := ty_34 ty z; omega
      · have := ty_35 ty z; omega
    have e : chk B kn on t = if kn (bar B (bfi B t + 1)) = bful B (bar B (bfi B t + 1)) then shK (bop B t) (bso B t) (bful B t) (kn (bar B (bfi B t))) (on (bar B (bfi B t))) (on (bar B (bfi B t + 1))) else (0#64, 0#64) := by
      rcases z with z | z | z
      · rw [ck_33 z, z]
      · rw [ck_34 z, z]
      · rw [ck_35 z, z]
    rw [e] at q
    simp (disch := omega) only [i32_lit, l64_lit, lc_eq, lc_ge, lc_le, lc_gt, lc_lt, jL_inj, jL_add, jL_sub, jL_mul, jL_neg, jL_and, jL_or, jL_xor, jL_mone, BitVec.xor_allOnes, nI_clamp, nI_ltI, nI_leI, nI_eq, nI_1, nI_add, nI_sub, nI_addm, nI_mul, vp_in_n, xi_pi, xi_pl, xl_pi, xl_pl, xb_pi, xb_pl, xqi_i, xql_l, xqv_v, xqi_e, xql_e, xqv_e, forall_eq, true_and, and_true, rc_ar h]
    refine c_shift (kn := kn) (on := on) h w ht (am _ (by omega) (by omega)) (am _ (by omega) (by omega)) y.2.1 y.2.2 (by omega) (hk _ (by omega) (by omega)) (hk _ (by omega) (by omega)) (ho _ (by omega) (by omega)) (ho _ (by omega) (by omega)) (fun c => ?_) (fun c c2 => ?_) (fun c c2 c3 => ?_) (fun c c2 c3 => ?_) (fun c c2 c3 c4 => ?_)
    · rw [if_neg c] at q; exact q
    · rw [if_pos c, shK, if_pos c2] at q; exact q
    · rw [if_pos c, shK, if_neg c2, if_pos c3] at q; exact q
    · rw [if_pos c, shK, if_neg (by omega), if_neg (by omega), if_pos c2] at q; exact q
    · rw [if_pos c, shK, if_neg c2, if_neg (by omega), if_neg c3] at q; exact q
  · have y := ty_44 ty z
    rw [ck_44 z] at q
    exact c_concat h w ht (fun i hi => (y.2.1 i hi).2) hk ho (fun r e => by subst e; exact q)
  · have y := ty_45 ty z
    rw [ck_45 z] at q
    have a0 := am (bfi B t) (by omega) (by omega)
    have ok0 := wf_so w a0
    have sz0 := (w.2.2.2.1 _ a0).2.2 y.2.1
    simp (disch := omega) only [i32_lit, l64_lit, lc_eq, lc_ge, lc_le, lc_gt, lc_lt, jL_inj, jL_add, jL_sub, jL_mul, jL_neg, jL_and, jL_or, jL_xor, jL_mone, BitVec.xor_allOnes, nI_clamp, nI_ltI, nI_leI, nI_eq, nI_1, nI_add, nI_sub, nI_addm, nI_mul, vp_in_n, xi_pi, xi_pl, xl_pi, xl_pl, xb_pi, xb_pl, xqi_i, xql_l, xqv_v, xqi_e, xql_e, xqv_e, forall_eq, true_and, and_true, rc_ar h]
    refine c_select (kn := kn) (on := on) h w ht (am _ (by omega) (by omega)) (am _ (by omega) (by omega)) y.2.1 (by omega) (fun c => ?_) (hk _ (by omega) (by omega)) (hk _ (by omega) (by omega)) (ho _ (by omega) (by omega)) (ho _ (by omega) (by omega)) (fun c => ?_) (fun c => ?_)
    · have := hi (by omega) c
      rw [y.2.2.1, vec_sz (by omega) (by have := ok0.1; omega)] at this
      exact this
    · rw [if_pos c] at q; exact q
    · rw [if_neg c] at q; exact q
  · have y := ty_46 ty z
    rw [ck_46 z] at q
    have ok0 := wf_so w ht
    have hr : 128 ≤ bso B t := by omega
    have sz0 := (w.2.2.2.1 _ ht).2.2 hr
    simp (disch := omega) only [i32_lit, l64_lit, lc_eq, lc_ge, lc_le, lc_gt, lc_lt, jL_inj, jL_add, jL_sub, jL_mul, jL_neg, jL_and, jL_or, jL_xor, jL_mone, BitVec.xor_allOnes, nI_clamp, nI_ltI, nI_leI, nI_eq, nI_1, nI_add, nI_sub, nI_addm, nI_mul, vp_in_n, xi_pi, xi_pl, xl_pi, xl_pl, xb_pi, xb_pl, xqi_i, xql_l, xqv_v, xqi_e, xql_e, xqv_e, forall_eq, true_and, and_true, rc_ar h]
    refine c_store (kn := kn) (on := on) h w ht (am _ (by omega) (by omega)) (am _ (by omega) (by omega)) (am _ (by omega) (by omega)) hr (by omega) (fun c => ?_) (hk _ (by omega) (by omega)) (hk _ (by omega) (by omega)) (hk _ (by omega) (by omega)) (ho _ (by omega) (by omega)) (ho _ (by omega) (by omega)) (ho _ (by omega) (by omega)) (fun c => ?_) (fun c => ?_)
    · have := hi (by omega) c
      rw [y.2.2.1, ← y.2.2.2.2, vec_sz (by omega) (by have := ok0.1; omega)] at this
      exact this
    · rw [if_pos c] at q; exact q
    · rw [if_neg c] at q; exact q
  · rw [ck_48 z] at q
    simp (disch := omega) only [i32_lit, l64_lit, lc_eq, lc_ge, lc_le, lc_gt, lc_lt, jL_inj, jL_add, jL_sub, jL_mul, jL_neg, jL_and, jL_or, jL_xor, jL_mone, BitVec.xor_allOnes, nI_clamp, nI_ltI, nI_leI, nI_eq, nI_1, nI_add, nI_sub, nI_addm, nI_mul, vp_in_n, xi_pi, xi_pl, xl_pi, xl_pl, xb_pi, xb_pl, xqi_i, xql_l, xqv_v, xqi_e, xql_e, xqv_e, forall_eq, true_and, and_true, rc_fu h, rc_bi h]
    exact c_learn (by omega) q
  · have z2 : bop B t = 36 ∨ bop B t = 37 ∨ bop B t = 38 ∨ bop B t = 39 ∨ bop B t = 40 ∨ bop B t = 41 ∨ bop B t = 42 ∨ bop B t = 43 := by omega
    have y : bfi B (t + 1) - bfi B t = 2 ∧ 1 ≤ bso B (bar B (bfi B t)) ∧ bso B (bar B (bfi B t)) ≤ 64 := by
      rcases z2 with z | z | z | z | z | z | z | z
      · have := ty_36 ty z; omega
      · have := ty_37 ty z; omega
      · have := ty_38 ty z; omega
      · have := ty_39 ty z; omega
      · have := ty_40 ty z; omega
      · have := ty_41 ty z; omega
      · have := ty_42 ty z; omega
      · have := ty_43 ty z; omega
    simp (disch := omega) only [i32_lit, l64_lit, lc_eq, lc_ge, lc_le, lc_gt, lc_lt, jL_inj, jL_add, jL_sub, jL_mul, jL_neg, jL_and, jL_or, jL_xor, jL_mone, BitVec.xor_allOnes, nI_clamp, nI_ltI, nI_leI, nI_eq, nI_1, nI_add, nI_sub, nI_addm, nI_mul, vp_in_n, xi_pi, xi_pl, xl_pi, xl_pl, xb_pi, xb_pl, xqi_i, xql_l, xqv_v, xqi_e, xql_e, xqv_e, forall_eq, true_and, and_true, rc_ar h]
    refine c_comparison (kn := kn) (on := on) h w ht (am _ (by omega) (by omega)) (am _ (by omega) (by omega)) y.2.1 y.2.2 (by omega) (hk _ (by omega) (by omega)) (hk _ (by omega) (by omega)) (ho _ (by omega) (by omega)) (ho _ (by omega) (by omega)) (fun r T eT er => ?_)
    have e : chk B kn on t = eiK r := by
      rw [er, eT]
      rcases z2 with z | z | z | z | z | z | z | z
      · rw [ck_36 z, z]
      · rw [ck_37 z, z]
      · rw [ck_38 z, z]
      · rw [ck_39 z, z]
      · rw [ck_40 z, z]
      · rw [ck_41 z, z]
      · rw [ck_42 z, z]
      · rw [ck_43 z, z]
    rw [e] at q
    exact q
end CHK6
