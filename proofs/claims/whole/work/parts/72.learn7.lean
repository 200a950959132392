section LRN7
variable {B : Bk} {σ : xS} {Q : xO → xS → Prop} {t g mk li J : Nat} {A : Nat → BitVec 64} {bits : BitVec 64}
theorem typ_n1 (h : typ B t) (n7 : bop B t ≠ 47) (n8 : bop B t ≠ 48) : 1 ≤ bfi B (t + 1) - bfi B t := by
  unfold typ at h
  simp only at h
  split at h <;> omega
theorem st_own {A' : Nat → BitVec 64} (g : gro B t A A') (w : wfB B) (ht : t < bma B) : A' t = A t := gro.own g w ht
theorem l_term (L : lnS B li σ A mk) (w : wfB B) (hS : bsz B ≤ 16) (ht : t < bma B) (hl : t ≤ li) (W : wrt B J σ t) (n7 : bop B t ≠ 47) (n8 : bop B t ≠ 48) (k : fin B li t σ A Q (fun A' => stOK B J A' t)) : wp_Learner_explainTerm Q σ (nI t) (nI (bar B (bfi B t))) (jL (A t)) := by
  have hm := wf_ma w
  obtain ⟨f1, f2, f3⟩ := wf_fi w ht
  have ty := wf_ty w ht
  have hop := typ_op ty
  have n1 := typ_n1 ty n7 n8
  have l0 := wf_ar w ht (Nat.le_refl _) (show bfi B t < bfi B (t + 1) by omega)
  have hf := L.2.2.2.2.2.2 t ht
  have kq : fin B li t σ A (xqv (fun u => Q (.inl none) u) (fun n u => Q (.inr n) u)) (fun A' => stOK B J A' t) := fun σ' A' mk' o' L' g' s' => by
    rw [xqv_v]
    exact k σ' A' mk' o' L' g' s'
  have fa : ∀ i, i < bfi B (t + 1) - bfi B t → ∀ j, j = bfi B t + i → bfi B t ≤ j ∧ j < bfi B (t + 1) := fun i hi j e => by omega
  have vec : ∀ i, bfi B t ≤ i → i < bfi B (t + 1) → (∀ m, m < bfi B (t + 1) - bfi B t → bso B (bar B (bfi B t + m)) = bso B t) → bful B (bar B i) = bful B t := fun i i1 i2 h => by
    have := h (i - bfi B t) (by omega)
    rw [show bfi B t + (i - bfi B t) = i by omega] at this
    exact bful_eq this
  have upb : 1 ≤ bso B t → bso B t ≤ 64 → sbs (upT (A t)) (bful B t) := fun h1 h2 => sbs.of fun i hi hb => by
    obtain ⟨j, j1, j2⟩ := upT_bit.mp hb
    have := hf.b j2
    rw [bful_v h1 h2, bm_bit] at this ⊢
    simp at this ⊢
    omega
  unfold wp_Learner_explainTerm
  simp (disch := omega) only [i32_lit, l64_lit, lc_eq, lc_ge, lc_le, lc_gt, lc_lt, jL_inj, jL_add, jL_sub, jL_mul, jL_neg, jL_and, jL_or, jL_xor, jL_mone, BitVec.xor_allOnes, nI_clamp, nI_ltI, nI_leI, nI_eq, nI_1, nI_add, nI_sub, nI_addm, nI_mul, vp_in_n, xi_pi, xi_pl, xl_pi, xl_pl, xb_pi, xb_pl, xqi_i, xql_l, xqv_v, xqi_e, xql_e, xqv_e, forall_eq, true_and, and_true, rc_op L.1]
  refine ⟨fun z => ?_, fun z => ?_, fun z => ?_, fun z => ?_, fun z => ?_, fun z => ?_, fun z => ?_, fun z => ?_, fun z => ?_, fun z => ?_, fun z => ?_, fun z => ?_, fun z => ?_, fun z => ?_, fun z => ?_, fun z => ?_, fun z => ?_, fun z => ?_, fun z => ?_, fun z => ?_⟩
  · have y := ty_10 ty z
    simp (disch := omega) only [i32_lit, l64_lit, lc_eq, lc_ge, lc_le, lc_gt, lc_lt, jL_inj, jL_add, jL_sub, jL_mul, jL_neg, jL_and, jL_or, jL_xor, jL_mone, BitVec.xor_allOnes, nI_clamp, nI_ltI, nI_leI, nI_eq, nI_1, nI_add, nI_sub, nI_addm, nI_mul, vp_in_n, xi_pi, xi_pl, xl_pi, xl_pl, xb_pi, xb_pl, xqi_i, xql_l, xqv_v, xqi_e, xql_e, xqv_e, forall_eq, true_and, and_true, rc_lo L.1]
    rw [jL_shl _ (by omega)]
    refine l_ask L w hS ht (Nat.le_refl _) (by omega) hl (sbs.of fun i hi hb => ?_) (fun σ' A' mk' o' L' g' s' => kq σ' A' mk' o' L' g' (st_extr w ht (L'.2.2.2.2.2.2 t ht) z (by rw [st_own g' w ht]; exact s')))
    rw [BitVec.getLsbD_shiftLeft] at hb
    simp at hb
    have := hf.b hb.2
    rw [bful_v (by omega) (by omega), bm_bit] at this
    simp at this
    rw [bful_v (by omega) (by omega), bm_bit]
    simp
    omega
  · simp (disch := omega) only [i32_lit, l64_lit, lc_eq, lc_ge, lc_le, lc_gt, lc_lt, jL_inj, jL_add, jL_sub, jL_mul, jL_neg, jL_and, jL_or, jL_xor, jL_mone, BitVec.xor_allOnes, nI_clamp, nI_ltI, nI_leI, nI_eq, nI_1, nI_add, nI_sub, nI_addm, nI_mul, vp_in_n, xi_pi, xi_pl, xl_pi, xl_pl, xb_pi, xb_pl, xqi_i, xql_l, xqv_v, xqi_e, xql_e, xqv_e, forall_eq, true_and, and_true, rc_fu L.1]
    exact l_ask L w hS ht (Nat.le_refl _) (by omega) hl (sbs.andr _ _) (fun σ' A' mk' o' L' g' s' => kq σ' A' mk' o' L' g' (st_zext w ht (L'.2.2.2.2.2.2 t ht) z (by rw [st_own g' w ht]; exact s')))
  · simp (disch := omega) only [i32_lit, l64_lit, lc_eq, lc_ge, lc_le, lc_gt, lc_lt, jL_inj, jL_add, jL_sub, jL_mul, jL_neg, jL_and, jL_or, jL_xor, jL_mone, BitVec.xor_allOnes, nI_clamp, nI_ltI, nI_leI, nI_eq, nI_1, nI_add, nI_sub, nI_addm, nI_mul, vp_in_n, xi_pi, xi_pl, xl_pi, xl_pl, xb_pi, xb_pl, xqi_i, xql_l, xqv_v, xqi_e, xql_e, xqv_e, forall_eq, true_and, and_true, rc_fu L.1]
    unfold w_Learner_explainTerm_431
    exact ⟨fun e => l_sext L w hS ht hl z kq false (fun _ => e), fun e => l_sext L w hS ht hl z kq true (fun q => by cases q)⟩
  · have e1 : bso B (bar B (bfi B t)) = bso B t := by
      rcases z with z | z
      · have := ty_13 ty z; omega
      · have := ty_21 ty z; omega
    exact l_ask L w hS ht (Nat.le_refl _) (by omega) hl (by rw [bful_eq e1]; exact hf) (fun σ' A' mk' o' L' g' s' => kq σ' A' mk' o' L' g' (st_not w ht z (by rw [st_own g' w ht]; exact s')))
  · have hv : ∃ op, (op = 14 ∨ op = 23) ∧ ev B J t = foldA (fun i => evL B J t (bar B (bfi B t + i))) op (bfi B (t + 1) - bfi B t - 1) &&& bful B t ∧ ∀ m, m < bfi B (t + 1) - bfi B t → bso B (bar B (bfi B t + m)) = bso B t := by
      rcases z with z | z
      · have y := ty_14 ty z
        exact ⟨14, Or.inl rfl, by rw [ev_ap w ht n7 n8, ap_14 z], fun m hm => (y.2.1 m hm).trans y.2.2.symm⟩
      · have y := ty_23 ty z
        exact ⟨23, Or.inr rfl, by rw [ev_ap w ht n7 n8, ap_23 z], y.2.1⟩
    obtain ⟨op, ho, hv, hso⟩ := hv
    simp (disch := omega) only [i32_lit, l64_lit, lc_eq, lc_ge, lc_le, lc_gt, lc_lt, jL_inj, jL_add, jL_sub, jL_mul, jL_neg, jL_and, jL_or, jL_xor, jL_mone, BitVec.xor_allOnes, nI_clamp, nI_ltI, nI_leI, nI_eq, nI_1, nI_add, nI_sub, nI_addm, nI_mul, vp_in_n, xi_pi, xi_pl, xl_pi, xl_pl, xb_pi, xb_pl, xqi_i, xql_l, xqv_v, xqi_e, xql_e, xqv_e, forall_eq, true_and, and_true, W.1]
    refine l_bitwise L w hS ht hl W (fun i i1 i2 => vec i i1 i2 hso) (hf.andl _) (hf.andl _) (fun j hj => ?_) (fun σ' A' mk' o' L' g' s' => kq σ' A' mk' o' L' g' (st_and w ht (L'.2.2.2.2.2.2 t ht) z (fun i hi => ?_) (fun j hj => ?_)))
    · rw [BitVec.getLsbD_and, BitVec.getLsbD_not, Bool.and_eq_true, Bool.and_eq_true] at hj
      obtain ⟨j1, j2, j3⟩ := hj
      have j64 := of_decide_eq_true j2
      have nf : ¬ (foldA (fun i => evL B J t (bar B (bfi B t + i))) op (bfi B (t + 1) - bfi B t - 1)).getLsbD j = true := by
        intro q
        rw [hv, BitVec.getLsbD_and, q, hf.b j1] at j3
        cases j3
      rw [fold_and ho] at nf
      apply Classical.byContradiction
      intro n
      apply nf
      intro i hi
      rw [evL_ar w ht (by omega)]
      cases q : (ev B J (bar B (bfi B t + i))).getLsbD j with
      | true => rfl
      | false => exact absurd ⟨bfi B t + i, by omega, by omega, by rw [BitVec.getLsbD_xor, q, BitVec.getLsbD_allOnes]; simp [j64]⟩ n
    · rw [st_own g' w ht]
      exact s'.1 _ (by omega) (by omega)
    · rw [st_own g' w ht] at hj
      obtain ⟨i, i1, i2, i3, i4⟩ := s'.2 j hj
      refine ⟨i - bfi B t, by omega, ?_⟩
      rw [show bfi B t + (i - bfi B t) = i by omega]
      refine ⟨i3, ?_⟩
      have j64 : j < 64 := by
        apply Classical.byContradiction
        intro n
        rw [BitVec.getLsbD_of_ge _ _ (by omega)] at hj
        cases hj
      rw [BitVec.getLsbD_xor, BitVec.getLsbD_allOnes, decide_eq_true j64] at i4
      revert i4
      cases (ev B J (bar B i)).getLsbD j <;> simp
  · have hv : ∃ op, (op = 15 ∨ op = 24) ∧ ev B J t = foldA (fun i => evL B J t (bar B (bfi B t + i))) op (bfi B (t + 1) - bfi B t - 1) &&& bful B t ∧ ∀ m, m < bfi B (t + 1) - bfi B t → bso B (bar B (bfi B t + m)) = bso B t := by
      rcases z with z | z
      · have y := ty_15 ty z
        exact ⟨15, Or.inl rfl, by rw [ev_ap w ht n7 n8, ap_15 z], fun m hm => (y.2.1 m hm).trans y.2.2.symm⟩
      · have y := ty_24 ty z
        exact ⟨24, Or.inr rfl, by rw [ev_ap w ht n7 n8, ap_24 z], y.2.1⟩
    obtain ⟨op, ho, hv, hso⟩ := hv
    simp (disch := omega) only [i32_lit, l64_lit, lc_eq, lc_ge, lc_le, lc_gt, lc_lt, jL_inj, jL_add, jL_sub, jL_mul, jL_neg, jL_and, jL_or, jL_xor, jL_mone, BitVec.xor_allOnes, nI_clamp, nI_ltI, nI_leI, nI_eq, nI_1, nI_add, nI_sub, nI_addm, nI_mul, vp_in_n, xi_pi, xi_pl, xl_pi, xl_pl, xb_pi, xb_pl, xqi_i, xql_l, xqv_v, xqi_e, xql_e, xqv_e, forall_eq, true_and, and_true, W.1]
    refine l_bitwise L w hS ht hl W (fun i i1 i2 => vec i i1 i2 hso) (hf.andl _) (hf.andl _) (fun j hj => ?_) (fun σ' A' mk' o' L' g' s' => kq σ' A' mk' o' L' g' (st_or w ht (L'.2.2.2.2.2.2 t ht) z (fun i hi => ?_) (fun j hj => ?_)))
    · rw [BitVec.getLsbD_and, Bool.and_eq_true] at hj
      obtain ⟨j1, j3⟩ := hj
      rw [hv, BitVec.getLsbD_and, Bool.and_eq_true, fold_or ho] at j3
      obtain ⟨⟨i, i1, i2⟩, -⟩ := j3
      rw [evL_ar w ht (by omega)] at i2
      exact ⟨bfi B t + i, by omega, by omega, by rw [BitVec.xor_zero]; exact i2⟩
    · rw [st_own g' w ht]
      exact s'.1 _ (by omega) (by omega)
    · rw [st_own g' w ht] at hj
      obtain ⟨i, i1, i2, i3, i4⟩ := s'.2 j hj
      refine ⟨i - bfi B t, by omega, ?_⟩
      rw [show bfi B t + (i - bfi B t) = i by omega]
      rw [BitVec.xor_zero] at i4
      exact ⟨i3, i4⟩
  · have hso : ∀ m, m < bfi B (t + 1) - bfi B t → bso B (bar B (bfi B t + m)) = bso B t := by
      rcases z with z | z
      · have y := ty_16 ty z
        exact fun m hm => (y.2.1 m hm).trans y.2.2.symm
      · exact (ty_25 ty z).2.1
    exact l_askAll L w hS ht hl (fun i i1 i2 => by rw [vec i i1 i2 hso]; exact hf) (fun σ' A' mk' o' L' g' s' => kq σ' A' mk' o' L' g' (st_xor w ht (L'.2.2.2.2.2.2 t ht) z (fun i hi => by rw [st_own g' w ht]; exact s' _ (by omega) (by omega))))
  · exact l_impl L w hS ht hl W z kq
  · exact l_ite L w hS ht hl W z kq
  · exact l_equal L w hS ht hl W z kq
  · exact l_distinct L w hS ht hl W z kq
  · have hso : (∀ m, m < bfi B (t + 1) - bfi B t → bso B (bar B (bfi B t + m)) = bso B t) ∧ 1 ≤ bso B t ∧ bso B t ≤ 64 := by
      rcases z with z | z | z
      · have y := ty_22 ty z
        exact ⟨fun m hm => by rw [show m = 0 by omega]; exact y.2.1, y.2.2⟩
      · have y := ty_26 ty z
        exact ⟨y.2.1, y.2.2⟩
      · have y := ty_28 ty z
        refine ⟨fun m hm => ?_, by omega, by omega⟩
        by_cases e : m = 0
        · rw [e]; exact y.2.2.2.2.symm
        · rw [show m = 1 by omega]; omega
    refine p_upTo ?_
    rw [xql_l]
    exact l_askAll L w hS ht hl (fun i i1 i2 => by rw [vec i i1 i2 hso.1]; exact upb hso.2.1 hso.2.2) (fun σ' A' mk' o' L' g' s' => kq σ' A' mk' o' L' g' (st_sum w ht (L'.2.2.2.2.2.2 t ht) z (fun i hi => by rw [st_own g' w ht]; exact s' _ (by omega) (by omega))))
  · refine p_upTo ?_
    rw [xql_l]
    exact l_product L w hS ht hl W z kq
  · have hso : bfi B (t + 1) - bfi B t = 2 ∧ bso B (bar B (bfi B t)) = bso B (bar B (bfi B t + 1)) := by
      rcases z with z | z | z | z
      · have := ty_29 ty z; exact ⟨this.1, this.2.1⟩
      · have := ty_30 ty z; exact ⟨this.1, this.2.1⟩
      · have := ty_31 ty z; exact ⟨this.1, this.2.1⟩
      · have := ty_32 ty z; exact ⟨this.1, this.2.1⟩
    have ef : ∀ i, bfi B t ≤ i → i < bfi B (t + 1) → bful B (bar B i) = bful B (bar B (bfi B t)) := fun i i1 i2 => by
      by_cases e : i = bfi B t
      · rw [e]
      · rw [show i = bfi B t + 1 by omega]; exact bful_eq hso.2.symm
    simp (disch := omega) only [i32_lit, l64_lit, lc_eq, lc_ge, lc_le, lc_gt, lc_lt, jL_inj, jL_add, jL_sub, jL_mul, jL_neg, jL_and, jL_or, jL_xor, jL_mone, BitVec.xor_allOnes, nI_clamp, nI_ltI, nI_leI, nI_eq, nI_1, nI_add, nI_sub, nI_addm, nI_mul, vp_in_n, xi_pi, xi_pl, xl_pi, xl_pl, xb_pi, xb_pl, xqi_i, xql_l, xqv_v, xqi_e, xql_e, xqv_e, forall_eq, true_and, and_true, rc_fu L.1]
    exact l_askAll L w hS ht hl (fun i i1 i2 => by rw [ef i i1 i2]; exact sbs.refl _) (fun σ' A' mk' o' L' g' s' => kq σ' A' mk' o' L' g' (st_div w ht (L'.2.2.2.2.2.2 t ht) z (fun i hi => by rw [ef _ (by omega) (by omega)]; exact s' _ (by omega) (by omega))))
  · exact l_shift L w hS ht hl W z kq
  · exact l_ashr L w hS ht hl W z kq
  · exact l_concat L w hS ht hl z kq
  · exact l_select L w hS ht hl W z kq
  · exact l_store L w hS ht hl W z kq
  · exact l_comp L w hS ht hl W (by omega) kq
end LRN7
