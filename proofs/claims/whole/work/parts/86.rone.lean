section RONE
variable {B : Bk} {σ σ' : xS} {Q : xO → xS → Prop} {t J : Nat}
theorem typ_two (ty : typ B t) (h : 28 ≤ bop B t ∧ bop B t ≤ 43) : (bfi B (t + 1) - bfi B t) = 2 ∧ bso B (bar B (bfi B t)) = bso B (bar B (bfi B t + 1)) ∧ 1 ≤ bso B (bar B (bfi B t)) ∧ bso B (bar B (bfi B t)) ≤ 64 ∧ (bop B t ≤ 35 → bso B t = bso B (bar B (bfi B t))) ∧ (36 ≤ bop B t → bso B t = 0) := by
  unfold typ at ty
  simp only [Nat.add_zero] at ty
  split at ty <;> omega
theorem r_valX {i : Nat} (h : RR B σ) (w : wfB B) (ht : t < bma B) (hi : i < bfi B (t + 1) - bfi B t) (k : Q (.inl (some (.long (xl σ 81 (64 * bar B (bfi B t + i)))))) σ) : wp_VectorSolverModel_valueOf Q σ (nI t) (nI i) := by
  have hm := wf_ma w
  have la := wf_ar w ht (show bfi B t ≤ bfi B t + i by omega) (by omega)
  unfold wp_VectorSolverModel_valueOf
  refine r_of h w ht hi ?_
  rw [xqi_i]
  simp (disch := omega) only [i32_lit, l64_lit, lc_eq, lc_ge, lc_le, lc_gt, lc_lt, jL_inj, jL_add, jL_sub, jL_mul, jL_neg, jL_and, jL_or, jL_xor, jL_mone, BitVec.xor_allOnes, nI_clamp, nI_ltI, nI_leI, nI_eq, nI_1, nI_add, nI_sub, nI_addm, nI_mul, vp_in_n, xi_pi, xi_pl, xl_pi, xl_pl, xb_pi, xb_pl, xqi_i, xql_l, xqv_v, xqi_e, xql_e, xqv_e, forall_eq, true_and, and_true]
  exact k
theorem opr_eq {o c : Nat} (h : 10 ≤ o ∧ o ≤ 48) (n7 : o ≠ 47) (n8 : o ≠ 48) : opr o = (if o < 13 then o + 26 else o - 11) := by
  unfold opr
  rw [if_neg n7, if_neg n8]
theorem res_eq (h : RR B σ) (w : wfB B) (hS : bsz B ≤ 16) (ht : t < bma B) (hn : nowA B J σ t) (z' : bop B t = 19) (k : ∀ r, r &&& bful B t = ev B J t → Q (.inl (some (.long (jL r)))) σ) : w_VectorSolverModel_result_132 Q (nI t) (nI 8) σ := by
  have hm := wf_ma w
  obtain ⟨f1, f2, f3⟩ := wf_fi w ht
  have ty := wf_ty w ht
  have va := ev_ap (J := J) w ht (by omega) (by omega)
  have y := ty_19 ty z'
  unfold w_VectorSolverModel_result_132
  simp (disch := omega) only [i32_lit, l64_lit, lc_eq, lc_ge, lc_le, lc_gt, lc_lt, jL_inj, jL_add, jL_sub, jL_mul, jL_neg, jL_and, jL_or, jL_xor, jL_mone, BitVec.xor_allOnes, nI_clamp, nI_ltI, nI_leI, nI_eq, nI_1, nI_add, nI_sub, nI_addm, nI_mul, vp_in_n, xi_pi, xi_pl, xl_pi, xl_pl, xb_pi, xb_pl, xqi_i, xql_l, xqv_v, xqi_e, xql_e, xqv_e, forall_eq, true_and, and_true]
  refine ⟨fun n => absurd trivial n, fun _ => ?_⟩
  unfold w_VectorSolverModel_result_145
  refine r_alike h w hS ht hn y.2.1 true (fun r hr => ?_)
  rw [xqi_i]
  simp (disch := omega) only [i32_lit, l64_lit, lc_eq, lc_ge, lc_le, lc_gt, lc_lt, jL_inj, jL_add, jL_sub, jL_mul, jL_neg, jL_and, jL_or, jL_xor, jL_mone, BitVec.xor_allOnes, nI_clamp, nI_ltI, nI_leI, nI_eq, nI_1, nI_add, nI_sub, nI_addm, nI_mul, vp_in_n, xi_pi, xi_pl, xl_pi, xl_pl, xb_pi, xb_pl, xqi_i, xql_l, xqv_v, xqi_e, xql_e, xqv_e, forall_eq, true_and, and_true, bI_0]
  have vt : ev B J t = bit (∀ i, i + 1 < (bfi B (t + 1) - bfi B t) → evL B J t (bar B (bfi B t + (i + 1))) = evL B J t (bar B (bfi B t + i))) &&& 1#64 := by rw [va, ap_19 z', bful_0 y.2.2]
  have eqv : r = true ↔ ∀ i, i + 1 < (bfi B (t + 1) - bfi B t) → evL B J t (bar B (bfi B t + (i + 1))) = evL B J t (bar B (bfi B t + i)) := by
    rw [hr]
    constructor
    · intro q i hi
      rw [evL_ar w ht hi, evL_ar w ht (by omega)]
      exact (q (i + 1) hi i (by omega)).mpr rfl
    · intro q
      have all : ∀ i, i < bfi B (t + 1) - bfi B t → ev B J (bar B (bfi B t + i)) = ev B J (bar B (bfi B t)) := by
        intro i
        induction i with
        | zero => intro _; rfl
        | succ i ih =>
          intro hi
          have := q i hi
          rw [evL_ar w ht (by omega), evL_ar w ht (by omega)] at this
          rw [this, ih (by omega)]
      intro i hi j hj
      exact ⟨fun _ => rfl, fun _ => by rw [all i hi, all j (by omega)]⟩
  refine ⟨fun c => k _ ?_, fun c => k _ ?_⟩
  · rw [vt, bit_f (fun q => by rw [eqv.mpr q] at c; cases c), bful_0 y.2.2]
  · rw [vt, bit_t (eqv.mp (by cases r with | true => rfl | false => exact absurd rfl c)), bful_0 y.2.2]

theorem res_ds (h : RR B σ) (w : wfB B) (hS : bsz B ≤ 16) (ht : t < bma B) (hn : nowA B J σ t) (z' : bop B t = 20) (k : ∀ r, r &&& bful B t = ev B J t → Q (.inl (some (.long (jL r)))) σ) : w_VectorSolverModel_result_132 Q (nI t) (nI 9) σ := by
  have hm := wf_ma w
  obtain ⟨f1, f2, f3⟩ := wf_fi w ht
  have ty := wf_ty w ht
  have va := ev_ap (J := J) w ht (by omega) (by omega)
  have y := ty_20 ty z'
  unfold w_VectorSolverModel_result_132
  simp (disch := omega) only [i32_lit, l64_lit, lc_eq, lc_ge, lc_le, lc_gt, lc_lt, jL_inj, jL_add, jL_sub, jL_mul, jL_neg, jL_and, jL_or, jL_xor, jL_mone, BitVec.xor_allOnes, nI_clamp, nI_ltI, nI_leI, nI_eq, nI_1, nI_add, nI_sub, nI_addm, nI_mul, vp_in_n, xi_pi, xi_pl, xl_pi, xl_pl, xb_pi, xb_pl, xqi_i, xql_l, xqv_v, xqi_e, xql_e, xqv_e, forall_eq, true_and, and_true]
  refine ⟨fun _ => ?_, fun n => absurd n (by decide)⟩
  unfold w_VectorSolverModel_result_145
  refine r_alike h w hS ht hn y.2.1 false (fun r hr => ?_)
  rw [xqi_i]
  simp (disch := omega) only [i32_lit, l64_lit, lc_eq, lc_ge, lc_le, lc_gt, lc_lt, jL_inj, jL_add, jL_sub, jL_mul, jL_neg, jL_and, jL_or, jL_xor, jL_mone, BitVec.xor_allOnes, nI_clamp, nI_ltI, nI_leI, nI_eq, nI_1, nI_add, nI_sub, nI_addm, nI_mul, vp_in_n, xi_pi, xi_pl, xl_pi, xl_pl, xb_pi, xb_pl, xqi_i, xql_l, xqv_v, xqi_e, xql_e, xqv_e, forall_eq, true_and, and_true, bI_0]
  have vt : ev B J t = bit (∀ i, i < (bfi B (t + 1) - bfi B t) → ∀ j, j < i → evL B J t (bar B (bfi B t + i)) ≠ evL B J t (bar B (bfi B t + j))) &&& 1#64 := by rw [va, ap_20 z', bful_0 y.2.2]
  have eqv : r = true ↔ ∀ i, i < (bfi B (t + 1) - bfi B t) → ∀ j, j < i → evL B J t (bar B (bfi B t + i)) ≠ evL B J t (bar B (bfi B t + j)) := by
    rw [hr]
    constructor
    · intro q i hi j hj
      rw [evL_ar w ht hi, evL_ar w ht (by omega)]
      intro c
      have := (q i hi j hj).mp c
      cases this
    · intro q i hi j hj
      have := q i hi j hj
      rw [evL_ar w ht hi, evL_ar w ht (by omega)] at this
      exact ⟨fun c => absurd c this, fun c => by cases c⟩
  refine ⟨fun c => k _ ?_, fun c => k _ ?_⟩
  · rw [vt, bit_f (fun q => by rw [eqv.mpr q] at c; cases c), bful_0 y.2.2]
  · rw [vt, bit_t (eqv.mp (by cases r with | true => rfl | false => exact absurd rfl c)), bful_0 y.2.2]

theorem res_sel (h : RR B σ) (w : wfB B) (hS : bsz B ≤ 16) (ht : t < bma B) (hn : nowA B J σ t) (z' : bop B t = 45) (k : ∀ r, r &&& bful B t = ev B J t → Q (.inl (some (.long (jL r)))) σ) : wp_VectorSolverModel_of (xqi (fun r12 u11 => wp_VectorSolverModel_valueOf (xql (fun r14 u13 => (vp_in ((64 * r12) + r14.toInt32) 128000 ∧ Q (.inl (some (.long (xl u13 81 ((64 * r12) + r14.toInt32).toNatClampNeg)))) u13)) (fun n u => Q (.inr n) u)) u11 (nI t) (nI 1)) (fun n u => Q (.inr n) u)) σ (nI t) (nI 0) := by
  have hm := wf_ma w
  obtain ⟨f1, f2, f3⟩ := wf_fi w ht
  have ty := wf_ty w ht
  have va := ev_ap (J := J) w ht (by omega) (by omega)
  have y := ty_45 ty z'
  have l0 := wf_ar w ht (Nat.le_refl _) (show bfi B t < bfi B (t + 1) by omega)
  have ok0 := wf_so w (show bar B (bfi B t) < bma B by omega)
  have e0 : evL B J t (bar B (bfi B t)) = ev B J (bar B (bfi B t)) := evL_a0 w ht (by omega)
  have l1 := wf_ar w ht (show bfi B t ≤ bfi B t + 1 by omega) (by omega)
  have os2 : bso B (bar B (bfi B t)) / 128 ≤ 6 ∧ 1 ≤ bso B (bar B (bfi B t)) % 128 ∧ bso B (bar B (bfi B t)) % 128 ≤ 64 := by unfold okS at ok0; omega
  have iv : (ev B J (bar B (bfi B t + 1))).toNat < ncl (bso B (bar B (bfi B t))) := by
    have := ev_lt (J := J) w (show bar B (bfi B t + 1) < bma B by omega)
    rw [vec_sz (s := bso B (bar B (bfi B t + 1))) (by omega) (by omega), y.2.2.1] at this
    exact this
  have nc := ncl_le ok0
  refine r_of h w ht (show 0 < _ by omega) ?_
  rw [xqi_i, Nat.add_zero]
  refine r_valueOf h w ht (show 1 < _ by omega) (by omega) (hn 1 (by omega)) ?_
  rw [xql_l]
  have n0 : now B J σ (bar B (bfi B t)) := hn 0 (by omega)
  simp (disch := omega) only [i32_lit, l64_lit, lc_eq, lc_ge, lc_le, lc_gt, lc_lt, jL_inj, jL_add, jL_sub, jL_mul, jL_neg, jL_and, jL_or, jL_xor, jL_mone, BitVec.xor_allOnes, nI_clamp, nI_ltI, nI_leI, nI_eq, nI_1, nI_add, nI_sub, nI_addm, nI_mul, vp_in_n, xi_pi, xi_pl, xl_pi, xl_pl, xb_pi, xb_pl, xqi_i, xql_l, xqv_v, xqi_e, xql_e, xqv_e, forall_eq, true_and, and_true, jL_l2i, n0 _ iv]
  refine k _ ?_
  rw [va, ap_45 z', e0, evL_ar w ht (show 1 < _ by omega)]

theorem res_cmp (h : RR B σ) (w : wfB B) (hS : bsz B ≤ 16) (ht : t < bma B) (hn : nowA B J σ t) (z' : 36 ≤ bop B t ∧ bop B t ≤ 43) (k : ∀ r, r &&& bful B t = ev B J t → Q (.inl (some (.long (jL r)))) σ) : wp_VectorSolverModel_valueOf (xql (fun r22 u21 => wp_VectorSolverModel_compares (xqi (fun r24 u23 => ((r24 = nI 0 → Q (.inl (some (.long (jL 0#64)))) u23) ∧ (¬ r24 = nI 0 → Q (.inl (some (.long (jL 1#64)))) u23))) (fun n u => Q (.inr n) u)) u21 (nI (bop B t - 11)) (jL (ev B J (bar B (bfi B t)))) r22 (nI (bso B (bar B (bfi B t)) % 128))) (fun n u => Q (.inr n) u)) σ (nI t) (nI 1) := by
  have hm := wf_ma w
  obtain ⟨f1, f2, f3⟩ := wf_fi w ht
  have ty := wf_ty w ht
  have va := ev_ap (J := J) w ht (by omega) (by omega)
  have y : (bfi B (t + 1) - bfi B t) = 2 ∧ bso B (bar B (bfi B t)) = bso B (bar B (bfi B t + 1)) ∧ 1 ≤ bso B (bar B (bfi B t)) ∧ bso B (bar B (bfi B t)) ≤ 64 ∧ (bso B t) = 0 := by
    have := typ_two ty (by omega)
    exact ⟨this.1, this.2.1, this.2.2.1, this.2.2.2.1, this.2.2.2.2.2 z'.1⟩
  have l0 := wf_ar w ht (Nat.le_refl _) (show bfi B t < bfi B (t + 1) by omega)
  have e0 : evL B J t (bar B (bfi B t)) = ev B J (bar B (bfi B t)) := evL_a0 w ht (by omega)
  have l1 := wf_ar w ht (show bfi B t ≤ bfi B t + 1 by omega) (by omega)
  have b0 := ev_lt (J := J) w (show bar B (bfi B t) < bma B by omega)
  have b1 := ev_lt (J := J) w (show bar B (bfi B t + 1) < bma B by omega)
  rw [vec_sz y.2.2.1 y.2.2.2.1] at b0
  rw [← y.2.1, vec_sz y.2.2.1 y.2.2.2.1] at b1
  refine r_valueOf h w ht (show 1 < _ by omega) (by omega) (hn 1 (by omega)) ?_
  rw [xql_l, show bso B (bar B (bfi B t)) % 128 = bso B (bar B (bfi B t)) by omega]
  refine r_compares (by omega) y.2.2.1 y.2.2.2.1 b0 b1 (fun r hr => ?_)
  rw [show bop B t - 11 + 11 = bop B t by omega] at hr
  rw [xqi_i]
  have vt : ev B J t = bit (cmpA (bop B t) (ev B J (bar B (bfi B t))) (ev B J (bar B (bfi B t + 1))) (bso B (bar B (bfi B t)))) &&& 1#64 := by
    rw [va, bful_0 y.2.2.2.2]
    congr 1
    have hz : bop B t = 36 ∨ bop B t = 37 ∨ bop B t = 38 ∨ bop B t = 39 ∨ bop B t = 40 ∨ bop B t = 41 ∨ bop B t = 42 ∨ bop B t = 43 := by omega
    have e1 := evL_ar (J := J) w ht (show 1 < _ by omega)
    rcases hz with z | z | z | z | z | z | z | z
    · rw [ap_36 z, e0, e1, z]
    · rw [ap_37 z, e0, e1, z]
    · rw [ap_38 z, e0, e1, z]
    · rw [ap_39 z, e0, e1, z]
    · rw [ap_40 z, e0, e1, z]
    · rw [ap_41 z, e0, e1, z]
    · rw [ap_42 z, e0, e1, z]
    · rw [ap_43 z, e0, e1, z]
  simp (disch := omega) only [i32_lit, l64_lit, lc_eq, lc_ge, lc_le, lc_gt, lc_lt, jL_inj, jL_add, jL_sub, jL_mul, jL_neg, jL_and, jL_or, jL_xor, jL_mone, BitVec.xor_allOnes, nI_clamp, nI_ltI, nI_leI, nI_eq, nI_1, nI_add, nI_sub, nI_addm, nI_mul, vp_in_n, xi_pi, xi_pl, xl_pi, xl_pl, xb_pi, xb_pl, xqi_i, xql_l, xqv_v, xqi_e, xql_e, xqv_e, forall_eq, true_and, and_true, bI_0]
  refine ⟨fun c => k _ ?_, fun c => k _ ?_⟩
  · rw [vt, bit_f (fun q => by rw [hr.mpr q] at c; cases c), bful_0 y.2.2.2.2]
  · rw [vt, bit_t (hr.mp (by cases r with | true => rfl | false => exact absurd rfl c)), bful_0 y.2.2.2.2]

theorem res_fold (h : RR B σ) (w : wfB B) (hS : bsz B ≤ 16) (ht : t < bma B) (hn : nowA B J σ t) (z' : bop B t = 14 ∨ bop B t = 15 ∨ bop B t = 16 ∨ (23 ≤ bop B t ∧ bop B t ≤ 35)) (k : ∀ r, r &&& bful B t = ev B J t → Q (.inl (some (.long (jL r)))) σ) : ∃ m, w_VectorSolverModel_result_170 Q m (nI t) (nI (bop B t - 11)) (nI (bso B (bar B (bfi B t)) % 128)) (jL (ev B J (bar B (bfi B t)))) 1 σ := by
  have hm := wf_ma w
  obtain ⟨f1, f2, f3⟩ := wf_fi w ht
  have ty := wf_ty w ht
  have va := ev_ap (J := J) w ht (by omega) (by omega)
  have n1 := typ_n1 ty (by omega) (by omega)
  have e0 : evL B J t (bar B (bfi B t)) = ev B J (bar B (bfi B t)) := evL_a0 w ht (by omega)
  have ys : 2 ≤ bfi B (t + 1) - bfi B t ∧ (28 ≤ bop B t → bfi B (t + 1) - bfi B t = 2) ∧ (∀ i, i < bfi B (t + 1) - bfi B t → bso B (bar B (bfi B t + i)) = bso B t) ∧ bso B t ≤ 64 ∧ (23 ≤ bop B t → 1 ≤ bso B t) := by
    by_cases q : 28 ≤ bop B t
    · have y : (bfi B (t + 1) - bfi B t) = 2 ∧ bso B (bar B (bfi B t)) = bso B (bar B (bfi B t + 1)) ∧ 1 ≤ bso B (bar B (bfi B t)) ∧ bso B (bar B (bfi B t)) ≤ 64 ∧ (bso B t) = bso B (bar B (bfi B t)) := by
        have := typ_two ty (by omega)
        exact ⟨this.1, this.2.1, this.2.2.1, this.2.2.2.1, this.2.2.2.2.1 (by omega)⟩
      refine ⟨by omega, fun _ => y.1, fun i hi => ?_, by omega, fun _ => by omega⟩
      by_cases c : i = 0
      · rw [c]; exact y.2.2.2.2.symm
      · rw [show i = 1 by omega]; omega
    · have hz : bop B t = 14 ∨ bop B t = 15 ∨ bop B t = 16 ∨ bop B t = 23 ∨ bop B t = 24 ∨ bop B t = 25 ∨ bop B t = 26 ∨ bop B t = 27 := by omega
      rcases hz with z | z | z | z | z | z | z | z
      · have y := ty_14 ty z; exact ⟨y.1, fun n => absurd n q, fun i hi => (y.2.1 i hi).trans y.2.2.symm, by omega, fun n => by omega⟩
      · have y := ty_15 ty z; exact ⟨y.1, fun n => absurd n q, fun i hi => (y.2.1 i hi).trans y.2.2.symm, by omega, fun n => by omega⟩
      · have y := ty_16 ty z; exact ⟨y.1, fun n => absurd n q, fun i hi => (y.2.1 i hi).trans y.2.2.symm, by omega, fun n => by omega⟩
      · have y := ty_23 ty z; exact ⟨y.1, fun n => absurd n q, y.2.1, by omega, fun n => by omega⟩
      · have y := ty_24 ty z; exact ⟨y.1, fun n => absurd n q, y.2.1, by omega, fun n => by omega⟩
      · have y := ty_25 ty z; exact ⟨y.1, fun n => absurd n q, y.2.1, by omega, fun n => by omega⟩
      · have y := ty_26 ty z; exact ⟨y.1, fun n => absurd n q, y.2.1, by omega, fun n => by omega⟩
      · have y := ty_27 ty z; exact ⟨y.1, fun n => absurd n q, y.2.1, by omega, fun n => by omega⟩
  have s0 : bso B (bar B (bfi B t)) = bso B t := ys.2.2.1 0 (by omega)
  rw [s0]
  refine r_fold h w hS ht hn z' ys.1 ys.2.1 ys.2.2.1 ys.2.2.2.1 ys.2.2.2.2 (fun r hr => k r ?_)
  rw [hr, and_F, va]
  congr 1
  by_cases q : bop B t < 28
  · rw [if_pos q]
    have hz : bop B t = 14 ∨ bop B t = 15 ∨ bop B t = 16 ∨ bop B t = 23 ∨ bop B t = 24 ∨ bop B t = 25 ∨ bop B t = 26 ∨ bop B t = 27 := by omega
    have cgf := foldA_cg (g := fun i => ev B J (bar B (bfi B t + i))) (g' := fun i => evL B J t (bar B (bfi B t + i))) (op := bop B t) (bfi B (t + 1) - bfi B t - 1) (fun i hi => (evL_ar w ht (by omega)).symm)
    rw [cgf]
    rcases hz with z | z | z | z | z | z | z | z
    · rw [ap_14 z, z]
    · rw [ap_15 z, z]
    · rw [ap_16 z, z]
    · rw [ap_23 z, z]
    · rw [ap_24 z, z]
    · rw [ap_25 z, z]
    · rw [ap_26 z, z]
    · rw [ap_27 z, z]
  · rw [if_neg q]
    have hz : bop B t = 28 ∨ bop B t = 29 ∨ bop B t = 30 ∨ bop B t = 31 ∨ bop B t = 32 ∨ bop B t = 33 ∨ bop B t = 34 ∨ bop B t = 35 := by omega
    have e1 := evL_ar (J := J) w ht (show 1 < _ by omega)
    rcases hz with z | z | z | z | z | z | z | z
    · rw [ap_28 z, e0, e1, z, s0]
    · rw [ap_29 z, e0, e1, z, s0]
    · rw [ap_30 z, e0, e1, z, s0]
    · rw [ap_31 z, e0, e1, z, s0]
    · rw [ap_32 z, e0, e1, z, s0]
    · rw [ap_33 z, e0, e1, z, s0]
    · rw [ap_34 z, e0, e1, z, s0]
    · rw [ap_35 z, e0, e1, z, s0]
theorem r_result (h : RR B σ) (w : wfB B) (hS : bsz B ≤ 16) (ht : t < bma B) (hn : nowA B J σ t) (n7 : bop B t ≠ 47) (n8 : bop B t ≠ 48) (n18 : bop B t ≠ 18) (n46 : bop B t ≠ 46)
    (k : ∀ r, r &&& bful B t = ev B J t → Q (.inl (some (.long (jL r)))) σ) : wp_VectorSolverModel_result Q σ (nI t) := by
  have hm := wf_ma w
  obtain ⟨f1, f2, f3⟩ := wf_fi w ht
  have ty := wf_ty w ht
  have hop := typ_op ty
  have n1 := typ_n1 ty n7 n8
  have l0 := wf_ar w ht (Nat.le_refl _) (show bfi B t < bfi B (t + 1) by omega)
  have ok0 := wf_so w (show bar B (bfi B t) < bma B by omega)
  have oe : opr (bop B t) = (if bop B t < 13 then bop B t + 26 else bop B t - 11) := opr_eq (c := 0) hop n7 n8
  have e0 : evL B J t (bar B (bfi B t)) = ev B J (bar B (bfi B t)) := evL_a0 w ht (by omega)
  have va := ev_ap (J := J) w ht n7 n8
  have ol : opr (bop B t) < 64 := by rw [oe]; split <;> omega
  have fits0 : bop B t ≠ 45 → bop B t ≠ 19 → bop B t ≠ 20 → bso B (bar B (bfi B t)) ≤ 64 := by
    intro h45 h19 h20
    have hz : bop B t = 10 ∨ bop B t = 11 ∨ bop B t = 12 ∨ bop B t = 13 ∨ bop B t = 14 ∨ bop B t = 15 ∨ bop B t = 16 ∨ bop B t = 17 ∨ bop B t = 21 ∨ bop B t = 22 ∨ bop B t = 23 ∨ bop B t = 24 ∨ bop B t = 25 ∨ bop B t = 26 ∨ bop B t = 27 ∨ bop B t = 44 ∨ (28 ≤ bop B t ∧ bop B t ≤ 43) := by omega
    rcases hz with z | z | z | z | z | z | z | z | z | z | z | z | z | z | z | z | z
    · have := ty_10 ty z; omega
    · have := ty_11 ty z; omega
    · have := ty_12 ty z; omega
    · have := ty_13 ty z; omega
    · have y := ty_14 ty z; have : bso B (bar B (bfi B t)) = 0 := y.2.1 0 (by omega); omega
    · have y := ty_15 ty z; have : bso B (bar B (bfi B t)) = 0 := y.2.1 0 (by omega); omega
    · have y := ty_16 ty z; have : bso B (bar B (bfi B t)) = 0 := y.2.1 0 (by omega); omega
    · have y := ty_17 ty z; have : bso B (bar B (bfi B t)) = 0 := y.2.1 0 (by omega); omega
    · have := ty_21 ty z; omega
    · have := ty_22 ty z; omega
    · have y := ty_23 ty z; have : bso B (bar B (bfi B t)) = bso B t := y.2.1 0 (by omega); omega
    · have y := ty_24 ty z; have : bso B (bar B (bfi B t)) = bso B t := y.2.1 0 (by omega); omega
    · have y := ty_25 ty z; have : bso B (bar B (bfi B t)) = bso B t := y.2.1 0 (by omega); omega
    · have y := ty_26 ty z; have : bso B (bar B (bfi B t)) = bso B t := y.2.1 0 (by omega); omega
    · have y := ty_27 ty z; have : bso B (bar B (bfi B t)) = bso B t := y.2.1 0 (by omega); omega
    · have y := ty_44 ty z; have : bso B (bar B (bfi B t)) ≤ 63 := (y.2.1 0 (by omega)).2; omega
    · have := typ_two ty z; omega
  have so : ∀ c, bop B t = c → 13 ≤ c → c ≤ 46 → opr (bop B t) = c - 11 := fun c e c1 c2 => by rw [oe, if_neg (by omega), e]
  obtain ⟨x0, hx⟩ : ∃ x0, xl σ 81 (64 * bar B (bfi B t)) = jL x0 := jL_of _
  have hx0 : bso B (bar B (bfi B t)) ≤ 64 → x0 = ev B J (bar B (bfi B t)) := fun q => by
    have := now_0 w (show bar B (bfi B t) < bma B by omega) q (hn 0 (by omega))
    rw [hx] at this
    exact jL_inj.mp this
  unfold wp_VectorSolverModel_result
  simp (disch := omega) only [i32_lit, l64_lit, lc_eq, lc_ge, lc_le, lc_gt, lc_lt, jL_inj, jL_add, jL_sub, jL_mul, jL_neg, jL_and, jL_or, jL_xor, jL_mone, BitVec.xor_allOnes, nI_clamp, nI_ltI, nI_leI, nI_eq, nI_1, nI_add, nI_sub, nI_addm, nI_mul, vp_in_n, xi_pi, xi_pl, xl_pi, xl_pl, xb_pi, xb_pl, xqi_i, xql_l, xqv_v, xqi_e, xql_e, xqv_e, forall_eq, true_and, and_true, rr_wh h]
  refine r_of h w ht (show 0 < _ by omega) ?_
  rw [xqi_i, Nat.add_zero]
  simp (disch := omega) only [i32_lit, l64_lit, lc_eq, lc_ge, lc_le, lc_gt, lc_lt, jL_inj, jL_add, jL_sub, jL_mul, jL_neg, jL_and, jL_or, jL_xor, jL_mone, BitVec.xor_allOnes, nI_clamp, nI_ltI, nI_leI, nI_eq, nI_1, nI_add, nI_sub, nI_addm, nI_mul, vp_in_n, xi_pi, xi_pl, xl_pi, xl_pl, xb_pi, xb_pl, xqi_i, xql_l, xqv_v, xqi_e, xql_e, xqv_e, forall_eq, true_and, and_true, rr_wi h]
  refine r_valX h w ht (show 0 < _ by omega) ?_
  rw [xql_l, Nat.add_zero, hx]
  simp (disch := omega) only [i32_lit, l64_lit, lc_eq, lc_ge, lc_le, lc_gt, lc_lt, jL_inj, jL_add, jL_sub, jL_mul, jL_neg, jL_and, jL_or, jL_xor, jL_mone, BitVec.xor_allOnes, nI_clamp, nI_ltI, nI_leI, nI_eq, nI_1, nI_add, nI_sub, nI_addm, nI_mul, vp_in_n, xi_pi, xi_pl, xl_pi, xl_pl, xb_pi, xb_pl, xqi_i, xql_l, xqv_v, xqi_e, xql_e, xqv_e, forall_eq, true_and, and_true]
  -- by the reference's operator
  have cls : ∀ q, opr (bop B t) = q → 2 ≤ q → q ≤ 35 → bop B t = q + 11 := fun q e q1 q2 => by
    rw [oe] at e
    split at e <;> omega
  have cls3 : 25 ≤ opr (bop B t) → opr (bop B t) < 33 → (36 ≤ bop B t ∧ bop B t ≤ 43) ∧ opr (bop B t) = bop B t - 11 := fun q1 q2 => by
    rw [oe] at q1 q2 ⊢
    split at q1
    · next q => rw [if_pos q] at q2; omega
    · next q => rw [if_neg q]; rw [if_neg q] at q2; omega
  have cls2 : opr (bop B t) ≠ 2 → opr (bop B t) ≠ 6 → opr (bop B t) ≠ 8 → opr (bop B t) ≠ 9 → opr (bop B t) ≠ 10 → opr (bop B t) ≠ 11 → opr (bop B t) < 25 → (bop B t = 14 ∨ bop B t = 15 ∨ bop B t = 16 ∨ (23 ≤ bop B t ∧ bop B t ≤ 35)) ∧ opr (bop B t) = bop B t - 11 := fun q1 q2 q3 q4 q5 q6 q7 => by
    rw [oe] at q1 q2 q3 q4 q5 q6 q7 ⊢
    split at q7
    · omega
    · next q =>
      rw [if_neg q] at q1 q2 q3 q4 q5 q6
      rw [if_neg q]
      omega
  refine ⟨fun z => ?_, fun z2 => ⟨fun z10 => ⟨fun z11 => ⟨fun z6 => ⟨fun z8 => ?_, fun z8 => ⟨fun z9 => ⟨fun z25 => ⟨fun z33 => ⟨fun y33 => ⟨fun y34 => ⟨fun y36 => ⟨fun y37 => ?_, fun y37 => ?_⟩, fun y36 => ?_⟩, fun y34 => ?_⟩, fun y33 => ?_⟩, fun z33 => ?_⟩, fun z25 => ?_⟩, fun z9 => ?_⟩⟩, fun z6 => ?_⟩, fun z11 => ?_⟩, fun z10 => ?_⟩⟩
  · have z' := cls 2 z (by decide) (by decide)
    rw [hx0 (fits0 (by omega) (by omega) (by omega))]
    exact k _ (by rw [va, ap_13 z', e0])
  · have z' := cls 8 z8 (by decide) (by decide)
    rw [z8]
    exact res_eq h w hS ht hn z' k
  · have e8 : bop B t = 12 := by
      rw [oe] at z33 y33 y34 y36 y37
      split at z33
      · next q => rw [if_pos q] at y33 y34 y36 y37; omega
      · next q =>
        rw [if_neg q] at y33 y34 y36 y37
        omega
    have y := ty_12 ty e8
    have sm : bso B (bar B (bfi B t)) % 128 = bso B (bar B (bfi B t)) := by omega
    rw [sm, hx0 (by omega)]
    refine r_signed (by omega) (by omega) ?_
    rw [xql_l]
    exact k _ (by rw [va, ap_12 e8, e0])
  · have e8 : bop B t = 11 := by
      rw [oe] at y37
      split at y37 <;> omega
    rw [hx0 (fits0 (by omega) (by omega) (by omega))]
    exact k _ (by rw [va, ap_11 e8, e0])
  · have e8 : bop B t = 10 := by
      rw [oe] at y36
      split at y36 <;> omega
    have y := ty_10 ty e8
    simp (disch := omega) only [i32_lit, l64_lit, lc_eq, lc_ge, lc_le, lc_gt, lc_lt, jL_inj, jL_add, jL_sub, jL_mul, jL_neg, jL_and, jL_or, jL_xor, jL_mone, BitVec.xor_allOnes, nI_clamp, nI_ltI, nI_leI, nI_eq, nI_1, nI_add, nI_sub, nI_addm, nI_mul, vp_in_n, xi_pi, xi_pl, xl_pi, xl_pl, xb_pi, xb_pl, xqi_i, xql_l, xqv_v, xqi_e, xql_e, xqv_e, forall_eq, true_and, and_true, (h.2.1 t ht).2.2.2.2.2.1 e8]
    rw [hx0 (by omega), jL_ushr _ (by omega)]
    exact k _ (by rw [va, ap_10 e8, e0])
  · exact res_sel h w hS ht hn (cls 34 y34 (by decide) (by decide)) k
  · have z' := cls 33 y33 (by decide) (by decide)
    rw [hx0 (fits0 (by omega) (by omega) (by omega))]
    exact r_concat h w ht hn z' k
  · have z' := cls3 (by omega) (by omega)
    rw [hx0 (fits0 (by omega) (by omega) (by omega)), z'.2]
    exact res_cmp h w hS ht hn z'.1 k
  · have z' := cls2 z2 z6 z8 z9 z10 z11 (by omega)
    rw [hx0 (fits0 (by omega) (by omega) (by omega)), z'.2]
    exact res_fold h w hS ht hn z'.1 k
  · have z' := cls 9 z9 (by decide) (by decide)
    rw [z9]
    exact res_ds h w hS ht hn z' k
  · have z' := cls 6 z6 (by decide) (by decide)
    have y := ty_17 ty z'
    simp (disch := omega) only [i32_lit, l64_lit, lc_eq, lc_ge, lc_le, lc_gt, lc_lt, jL_inj, jL_add, jL_sub, jL_mul, jL_neg, jL_and, jL_or, jL_xor, jL_mone, BitVec.xor_allOnes, nI_clamp, nI_ltI, nI_leI, nI_eq, nI_1, nI_add, nI_sub, nI_addm, nI_mul, vp_in_n, xi_pi, xi_pl, xl_pi, xl_pl, xb_pi, xb_pl, xqi_i, xql_l, xqv_v, xqi_e, xql_e, xqv_e, forall_eq, true_and, and_true, rr_ma h]
    refine r_valueOf h w ht (show bfi B (t + 1) - bfi B t - 1 < _ by omega) (by rw [y.2.1 _ (by omega)]; omega) (hn _ (by omega)) ?_
    rw [xql_l]
    simp (disch := omega) only [i32_lit, l64_lit, lc_eq, lc_ge, lc_le, lc_gt, lc_lt, jL_inj, jL_add, jL_sub, jL_mul, jL_neg, jL_and, jL_or, jL_xor, jL_mone, BitVec.xor_allOnes, nI_clamp, nI_ltI, nI_leI, nI_eq, nI_1, nI_add, nI_sub, nI_addm, nI_mul, vp_in_n, xi_pi, xi_pl, xl_pi, xl_pl, xb_pi, xb_pl, xqi_i, xql_l, xqv_v, xqi_e, xql_e, xqv_e, forall_eq, true_and, and_true, rr_ma h]
    have := r_impl (Q := Q) h w ht hn z' (fun r hr => k r (by rw [hr]; exact ev_sub w ht))
    rw [show (2 : Int32) = nI 2 from rfl, nI_sub (by omega)] at this
    exact this
  · have z' := cls 11 z11 (by decide) (by decide)
    rw [hx0 (fits0 (by omega) (by omega) (by omega))]
    exact k _ (by rw [va, ap_22 z', e0])
  · have z' := cls 10 z10 (by decide) (by decide)
    rw [hx0 (fits0 (by omega) (by omega) (by omega))]
    exact k _ (by rw [va, ap_21 z', e0])
end RONE
