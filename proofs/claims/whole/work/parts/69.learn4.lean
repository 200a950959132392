section LRN4
variable {B : Bk} {σ : xS} {Q : xO → xS → Prop} {t mk li J : Nat} {A : Nat → BitVec 64} {bits : BitVec 64}
theorem l_impl (L : lnS B li σ A mk) (w : wfB B) (hS : bsz B ≤ 16) (ht : t < bma B) (hl : t ≤ li) (W : wrt B J σ t) (z : bop B t = 17) (k : fin B li t σ A Q (fun A' => stOK B J A' t)) : wp_Learner_explainImplication Q σ (nI t) := by
  have hm := wf_ma w
  obtain ⟨f1, f2, f3⟩ := wf_fi w ht
  have y := ty_17 (wf_ty w ht) z
  have b1 : ∀ i, bfi B t ≤ i → i < bfi B (t + 1) → bful B (bar B i) = 1#64 := fun i i1 i2 => by
    have := y.2.1 (i - bfi B t) (by omega)
    rw [show bfi B t + (i - bfi B t) = i by omega] at this
    exact bful_0 this
  have vt : ev B J t = implA (fun i => evL B J t (bar B (bfi B t + (bfi B (t + 1) - bfi B t - 1 - i)))) (bfi B (t + 1) - bfi B t - 1) &&& 1#64 := by rw [ev_ap w ht (by omega) (by omega), ap_17 z, bful_0 y.2.2]
  have v01 : ∀ i, bfi B t ≤ i → i < bfi B (t + 1) → ∀ c : Bool, (ev B J (bar B i)).getLsbD 0 = c → ev B J (bar B i) = (if c then 1#64 else 0#64) := fun i i1 i2 c hc => by
    have := ev_arg (J := J) w ht i1 i2
    rw [b1 i i1 i2] at this
    apply BitVec.eq_of_getLsbD_eq
    intro j hj
    by_cases e : j = 0
    · subst e; rw [hc]; cases c <;> decide
    · cases q : (ev B J (bar B i)).getLsbD j with
      | true => exact absurd (one_bit this q) e
      | false =>
        cases c
        · simp
        · show false = (1#64).getLsbD j
          rw [show (1#64) = bm 1 from rfl, bm_bit]
          simp
          omega
  unfold wp_Learner_explainImplication
  simp (disch := omega) only [i32_lit, l64_lit, lc_eq, lc_ge, lc_le, lc_gt, lc_lt, jL_inj, jL_add, jL_sub, jL_mul, jL_neg, jL_and, jL_or, jL_xor, jL_mone, BitVec.xor_allOnes, nI_clamp, nI_ltI, nI_leI, nI_eq, nI_1, nI_add, nI_sub, nI_addm, nI_mul, vp_in_n, xi_pi, xi_pl, xl_pi, xl_pl, xb_pi, xb_pl, xqi_i, xql_l, xqv_v, xqi_e, xql_e, xqv_e, forall_eq, true_and, and_true, W.1, rc_fi L.1]
  refine ⟨fun e0 => ?_, fun e0 => ?_⟩
  · have key := loop_i (σ := Option Nat) (fun m j ob => w_Learner_explainImplication_45 Q m (nI (bfi B (t + 1) - 1)) (opN B ob) (nI j) σ) (fun j ob => bfi B t ≤ j ∧ (ob = none → ∀ p, bfi B t ≤ p → p < j → ev B J (bar B p) ≠ (if p + 1 = bfi B (t + 1) then 1#64 else 0#64)) ∧ ∀ p, ob = some p → bfi B t ≤ p ∧ p < bfi B (t + 1) ∧ ev B J (bar B p) = (if p + 1 = bfi B (t + 1) then 1#64 else 0#64)) (bfi B (t + 1)) (fun m ob hO => ?_) (fun m j ob hj hO hs => ?_)
    · exact ⟨_, key (bfi B (t + 1) - bfi B t + 1) (bfi B t) none (by omega) (by omega) ⟨Nat.le_refl _, fun _ p p1 p2 => absurd p2 (by omega), fun p hp => by cases hp⟩⟩
    · obtain ⟨q0, q1, q2⟩ := hO
      unfold w_Learner_explainImplication_45
      have hob : ∀ p, ob = some p → bfi B t ≤ p ∧ p < bfi B (t + 1) := fun p hp => ⟨(q2 p hp).1, (q2 p hp).2.1⟩
      simp (disch := omega) only [i32_lit, l64_lit, lc_eq, lc_ge, lc_le, lc_gt, lc_lt, jL_inj, jL_add, jL_sub, jL_mul, jL_neg, jL_and, jL_or, jL_xor, jL_mone, BitVec.xor_allOnes, nI_clamp, nI_ltI, nI_leI, nI_eq, nI_1, nI_add, nI_sub, nI_addm, nI_mul, vp_in_n, xi_pi, xi_pl, xl_pi, xl_pl, xb_pi, xb_pl, xqi_i, xql_l, xqv_v, xqi_e, xql_e, xqv_e, forall_eq, true_and, and_true, opN_m1 w ht hob]
      refine ⟨fun _ => ⟨fun e => ?_, fun e => ?_⟩, fun q => absurd q (by omega)⟩
      · exfalso
        apply e0
        have hn : ¬ (implA (fun i => evL B J t (bar B (bfi B t + (bfi B (t + 1) - bfi B t - 1 - i)))) (bfi B (t + 1) - bfi B t - 1)).getLsbD 0 = true := by
          rw [impl_bit (by decide)]
          rintro (h | ⟨i, i1, i2, i3⟩)
          · have h : (evL B J t (bar B (bfi B t + (bfi B (t + 1) - bfi B t - 1 - 0)))).getLsbD 0 = true := h
            rw [evL_ar w ht (by omega)] at h
            refine q1 e (bfi B t + (bfi B (t + 1) - bfi B t - 1 - 0)) (by omega) (by omega) ?_
            rw [if_pos (by omega)]
            exact v01 _ (by omega) (by omega) true h
          · have i3 : (evL B J t (bar B (bfi B t + (bfi B (t + 1) - bfi B t - 1 - i)))).getLsbD 0 = false := i3
            rw [evL_ar w ht (by omega)] at i3
            refine q1 e (bfi B t + (bfi B (t + 1) - bfi B t - 1 - i)) (by omega) (by omega) ?_
            rw [if_neg (by omega)]
            exact v01 _ (by omega) (by omega) false i3
        rw [vt]
        apply BitVec.eq_of_getLsbD_eq
        intro j hj
        rw [BitVec.getLsbD_and, show (1#64) = bm 1 from rfl, bm_bit]
        by_cases c : j = 0
        · subst c; rw [Bool.eq_false_iff.mpr hn]; rfl
        · rw [decide_eq_false (show ¬ j < 1 by omega)]; simp
      · cases ob with
        | none => exact absurd rfl e
        | some p =>
          obtain ⟨p1, p2, p3⟩ := q2 p rfl
          show wp_Learner_ask _ σ (nI (bar B p)) (jL 1#64)
          refine l_ask L w hS ht p1 p2 hl (by rw [b1 p p1 p2]; exact sbs.refl _) (fun σ' A' mk' o' L' g' s' => ?_)
          rw [xqv_v]
          refine k σ' A' mk' o' L' g' (st_impl w ht (L'.2.2.2.2.2.2 t ht) z (Or.inr ⟨p - bfi B t, by omega, ?_⟩))
          rw [show bfi B t + (p - bfi B t) = p by omega]
          refine ⟨s', ?_⟩
          rw [p3]
          by_cases c : p + 1 = bfi B (t + 1)
          · rw [if_pos c, if_pos (by omega)]
          · rw [if_neg c, if_neg (by omega)]
    · obtain ⟨q0, q1, q2⟩ := hO
      unfold w_Learner_explainImplication_45
      have hob : ∀ p, ob = some p → bfi B t ≤ p ∧ p < bfi B (t + 1) := fun p hp => ⟨(q2 p hp).1, (q2 p hp).2.1⟩
      have jl := wf_ar w ht q0 hj
      have go : ∀ c : BitVec 64, c = (if j + 1 = bfi B (t + 1) then 1#64 else 0#64) → w_Learner_explainImplication_81 Q (w_Learner_explainImplication_45 Q m) (nI (bfi B (t + 1) - 1)) (opN B ob) (nI j) (nI (bar B j)) (jL (ev B J (bar B j))) (jL c) σ := by
        intro c hc
        unfold w_Learner_explainImplication_81
        simp (disch := omega) only [i32_lit, l64_lit, lc_eq, lc_ge, lc_le, lc_gt, lc_lt, jL_inj, jL_add, jL_sub, jL_mul, jL_neg, jL_and, jL_or, jL_xor, jL_mone, BitVec.xor_allOnes, nI_clamp, nI_ltI, nI_leI, nI_eq, nI_1, nI_add, nI_sub, nI_addm, nI_mul, vp_in_n, xi_pi, xi_pl, xl_pi, xl_pl, xb_pi, xb_pl, xqi_i, xql_l, xqv_v, xqi_e, xql_e, xqv_e, forall_eq, true_and, and_true]
        refine ⟨fun e => hs ob ⟨by omega, fun o p p1 p2 => ?_, q2⟩, fun e => ?_⟩
        · by_cases d : p = j
          · rw [d, ← hc]; exact e
          · exact q1 o p p1 (by omega)
        · refine l_better w ht (by omega) hob (fun r hr => ?_)
          rw [xqi_i]
          simp (disch := omega) only [i32_lit, l64_lit, lc_eq, lc_ge, lc_le, lc_gt, lc_lt, jL_inj, jL_add, jL_sub, jL_mul, jL_neg, jL_and, jL_or, jL_xor, jL_mone, BitVec.xor_allOnes, nI_clamp, nI_ltI, nI_leI, nI_eq, nI_1, nI_add, nI_sub, nI_addm, nI_mul, vp_in_n, xi_pi, xi_pl, xl_pi, xl_pl, xb_pi, xb_pl, xqi_i, xql_l, xqv_v, xqi_e, xql_e, xqv_e, forall_eq, true_and, and_true, bI_0]
          refine ⟨fun r0 => hs ob ⟨by omega, fun o => ?_, q2⟩, fun r1 => hs (some j) ⟨by omega, fun o => ?_, fun p hp => ?_⟩⟩
          · rw [hr o] at r0; cases r0
          · cases o
          · cases hp
            exact ⟨q0, hj, by rw [e, hc]⟩
      simp (disch := omega) only [i32_lit, l64_lit, lc_eq, lc_ge, lc_le, lc_gt, lc_lt, jL_inj, jL_add, jL_sub, jL_mul, jL_neg, jL_and, jL_or, jL_xor, jL_mone, BitVec.xor_allOnes, nI_clamp, nI_ltI, nI_leI, nI_eq, nI_1, nI_add, nI_sub, nI_addm, nI_mul, vp_in_n, xi_pi, xi_pl, xl_pi, xl_pl, xb_pi, xb_pl, xqi_i, xql_l, xqv_v, xqi_e, xql_e, xqv_e, forall_eq, true_and, and_true, rc_ar L.1, W.2 j q0 hj]
      refine ⟨fun q => absurd q (by omega), fun _ => ⟨fun e => go _ (by rw [if_neg (by omega)]), fun e => go _ (by rw [if_pos (by omega)])⟩⟩
  · refine l_askAll L w hS ht hl (fun i i1 i2 => by rw [b1 i i1 i2]; exact sbs.refl _) (fun σ' A' mk' o' L' g' s' => ?_)
    rw [xqv_v]
    exact k σ' A' mk' o' L' g' (st_impl w ht (L'.2.2.2.2.2.2 t ht) z (Or.inl ⟨e0, fun i hi => s' _ (by omega) (by omega)⟩))
theorem l_comp (L : lnS B li σ A mk) (w : wfB B) (hS : bsz B ≤ 16) (ht : t < bma B) (hl : t ≤ li) (W : wrt B J σ t) (z : 36 ≤ bop B t ∧ bop B t ≤ 43) (k : fin B li t σ A Q (fun A' => stOK B J A' t)) : wp_Learner_explainComparison Q σ (nI t) (nI (bar B (bfi B t))) := by
  have hm := wf_ma w
  obtain ⟨f1, f2, f3⟩ := wf_fi w ht
  have ty := wf_ty w ht
  have y : (bfi B (t + 1) - bfi B t) = 2 ∧ bso B (bar B (bfi B t)) = bso B (bar B (bfi B t + 1)) := by
    have z' : bop B t = 36 ∨ bop B t = 37 ∨ bop B t = 38 ∨ bop B t = 39 ∨ bop B t = 40 ∨ bop B t = 41 ∨ bop B t = 42 ∨ bop B t = 43 := by omega
    rcases z' with z | z | z | z | z | z | z | z
    · have := ty_36 ty z; exact ⟨this.1, this.2.1⟩
    · have := ty_37 ty z; exact ⟨this.1, this.2.1⟩
    · have := ty_38 ty z; exact ⟨this.1, this.2.1⟩
    · have := ty_39 ty z; exact ⟨this.1, this.2.1⟩
    · have := ty_40 ty z; exact ⟨this.1, this.2.1⟩
    · have := ty_41 ty z; exact ⟨this.1, this.2.1⟩
    · have := ty_42 ty z; exact ⟨this.1, this.2.1⟩
    · have := ty_43 ty z; exact ⟨this.1, this.2.1⟩
  have l0 := wf_ar w ht (Nat.le_refl _) (show bfi B t < bfi B (t + 1) by omega)
  have l1 := wf_ar w ht (show bfi B t ≤ bfi B t + 1 by omega) (by omega)
  unfold wp_Learner_explainComparison
  simp (disch := omega) only [i32_lit, l64_lit, lc_eq, lc_ge, lc_le, lc_gt, lc_lt, jL_inj, jL_add, jL_sub, jL_mul, jL_neg, jL_and, jL_or, jL_xor, jL_mone, BitVec.xor_allOnes, nI_clamp, nI_ltI, nI_leI, nI_eq, nI_1, nI_add, nI_sub, nI_addm, nI_mul, vp_in_n, xi_pi, xi_pl, xl_pi, xl_pl, xb_pi, xb_pl, xqi_i, xql_l, xqv_v, xqi_e, xql_e, xqv_e, forall_eq, true_and, and_true, rc_fi L.1, rc_ar L.1, W.2 (bfi B t) (Nat.le_refl _) (by omega), W.2 (bfi B t + 1) (by omega) (by omega), rc_fu L.1]
  refine p_upTo ?_
  rw [xql_l, jL_ushr _ (show 1 < 64 by decide)]
  simp (disch := omega) only [i32_lit, l64_lit, lc_eq, lc_ge, lc_le, lc_gt, lc_lt, jL_inj, jL_add, jL_sub, jL_mul, jL_neg, jL_and, jL_or, jL_xor, jL_mone, BitVec.xor_allOnes, nI_clamp, nI_ltI, nI_leI, nI_eq, nI_1, nI_add, nI_sub, nI_addm, nI_mul, vp_in_n, xi_pi, xi_pl, xl_pi, xl_pl, xb_pi, xb_pl, xqi_i, xql_l, xqv_v, xqi_e, xql_e, xqv_e, forall_eq, true_and, and_true]
  refine l_askAll L w hS ht hl (fun i i1 i2 => ?_) (fun σ' A' mk' o' L' g' s' => ?_)
  · have : bful B (bar B i) = bful B (bar B (bfi B t)) := by
      by_cases e : i = bfi B t
      · rw [e]
      · rw [show i = bfi B t + 1 by omega]; exact bful_eq y.2.symm
    rw [this]
    exact (sbs.refl _).andl _
  · rw [xqv_v]
    exact k σ' A' mk' o' L' g' (st_cmp w ht (L'.2.2.2.2.2.2 t ht) z (fun i hi => s' _ (by omega) (by omega)))
end LRN4
