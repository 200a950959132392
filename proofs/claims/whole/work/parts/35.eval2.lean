section EVAL2
variable {Q : xO → xS → Prop} {σ : xS} {B : Bk} {v : Nat → BitVec 64} {t : Nat}
theorem typ_op (h : typ B t) : 10 ≤ bop B t ∧ bop B t ≤ 48 := by
  unfold typ at h
  dsimp only at h
  split at h <;> omega
theorem p_compare {op w : Nat} {a b : BitVec 64} (ho : 36 ≤ op) (ho2 : op ≤ 43) (h1 : 1 ≤ w) (h2 : w ≤ 64) (k1 : cmpA op a b w → Q (.inl (some (.int 1))) σ) (k0 : ¬ cmpA op a b w → Q (.inl (some (.int 0))) σ) : wp_Words_compare Q σ (nI op) (jL a) (jL b) (nI w) := by
  unfold wp_Words_compare
  refine p_turned (by omega) h1 h2 ?_
  show (_ → _) ∧ (_ → _) ∧ (_ → _) ∧ (_ → _)
  rw [show (if op < 40 then 0#64 else 1#64 <<< (w - 1)) = turn op w from rfl]
  have e10 : (1 : Int32) = 0 ↔ False := by decide
  simp (disch := omega) only [i32_lit, l64_lit, lc_eq, lc_ge, lc_le, lc_gt, lc_lt, jL_inj, jL_add, jL_sub, jL_mul, jL_neg, jL_and, jL_or, jL_xor, jL_mone, BitVec.xor_allOnes, nI_clamp, nI_ltI, nI_leI, nI_eq, nI_1, nI_add, nI_sub, nI_addm, nI_mul, vp_in_n, xi_pi, xi_pl, xl_pi, xl_pl, xb_pi, xb_pl, xqi_i, xql_l, xqv_v, xqi_e, xql_e, xqv_e, forall_eq, true_and, and_true]
  refine ⟨fun z => p_less ?_, fun z => p_less ?_, fun z => p_less ?_, fun z => p_less ?_⟩
  · have e : cmpA op a b w ↔ (a ^^^ turn op w).toNat < (b ^^^ turn op w).toNat := by unfold cmpA; rw [if_pos z]
    by_cases q : (a ^^^ turn op w).toNat < (b ^^^ turn op w).toNat
    · rw [if_pos q]; exact ⟨Or.inr rfl, k1 (e.mpr q)⟩
    · rw [if_neg q]; exact ⟨Or.inl rfl, k0 (fun y => q (e.mp y))⟩
  · have e : cmpA op a b w ↔ ¬ (b ^^^ turn op w).toNat < (a ^^^ turn op w).toNat := by unfold cmpA; rw [if_neg (by omega), if_pos z]
    by_cases q : (b ^^^ turn op w).toNat < (a ^^^ turn op w).toNat
    · rw [if_pos q]; exact ⟨fun _ => k0 (fun y => e.mp y q), fun y => absurd y (by decide)⟩
    · rw [if_neg q]; exact ⟨fun y => absurd rfl y, fun _ => k1 (e.mpr q)⟩
  · have e : cmpA op a b w ↔ (b ^^^ turn op w).toNat < (a ^^^ turn op w).toNat := by unfold cmpA; rw [if_neg (by omega), if_neg (by omega), if_pos z]
    by_cases q : (b ^^^ turn op w).toNat < (a ^^^ turn op w).toNat
    · rw [if_pos q]; exact ⟨Or.inr rfl, k1 (e.mpr q)⟩
    · rw [if_neg q]; exact ⟨Or.inl rfl, k0 (fun y => q (e.mp y))⟩
  · have e : cmpA op a b w ↔ ¬ (a ^^^ turn op w).toNat < (b ^^^ turn op w).toNat := by unfold cmpA; rw [if_neg (by omega), if_neg (by omega), if_neg (by omega)]
    by_cases q : (a ^^^ turn op w).toNat < (b ^^^ turn op w).toNat
    · rw [if_pos q]; exact ⟨fun _ => k0 (fun y => e.mp y q), fun y => absurd y (by decide)⟩
    · rw [if_neg q]; exact ⟨fun y => absurd rfl y, fun _ => k1 (e.mpr q)⟩
theorem csh_lt {s c : Nat} (h : okS s) (hs : 128 ≤ s) : csh s c < szs s := by
  unfold csh szs
  rw [if_neg (by omega)]
  obtain ⟨h1, h2, h3⟩ := h
  have h4 : 1 ≤ s % 128 := by omega
  have h6 := Nat.one_le_two_pow (n := s / 128)
  rw [Nat.mul_comm]
  exact Nat.mul_lt_mul_of_pos_left (by omega) h4
theorem e_store_40 {a : Nat} {c x : BitVec 64} (h : RC B σ) (w : wfB B) (ha : a < bma B) (hs : 128 ≤ bso B a) (hz : szs (bso B a) ≤ 64) (hc : c.toNat < 2 ^ (bso B a / 128)) (hv : xl σ 41 a = jL (v a))
    (k : Q (.inl (some (.long (jL ((v a &&& ~~~ (bm (bso B a % 128) <<< csh (bso B a) c.toNat)) ||| (x <<< csh (bso B a) c.toNat)))))) σ) : wp_Evaluator_store_40 Q σ (nI a) (jL c) (jL x) := by
  have hm := wf_ma w
  have hk := wf_so w ha
  have hl := hk.lt
  have hsh := csh_lt (c := c.toNat) hk hs
  unfold wp_Evaluator_store_40
  simp (disch := omega) only [i32_lit, l64_lit, lc_eq, lc_ge, lc_le, lc_gt, lc_lt, jL_inj, jL_add, jL_sub, jL_mul, jL_neg, jL_and, jL_or, jL_xor, jL_mone, BitVec.xor_allOnes, nI_clamp, nI_ltI, nI_leI, nI_eq, nI_1, nI_add, nI_sub, nI_addm, nI_mul, vp_in_n, xi_pi, xi_pl, xl_pi, xl_pl, xb_pi, xb_pl, xqi_i, xql_l, xqv_v, xqi_e, xql_e, xqv_e, forall_eq, true_and, and_true, rc_so h]
  refine p_cellShift hk hc ?_
  simp (disch := omega) only [i32_lit, l64_lit, lc_eq, lc_ge, lc_le, lc_gt, lc_lt, jL_inj, jL_add, jL_sub, jL_mul, jL_neg, jL_and, jL_or, jL_xor, jL_mone, BitVec.xor_allOnes, nI_clamp, nI_ltI, nI_leI, nI_eq, nI_1, nI_add, nI_sub, nI_addm, nI_mul, vp_in_n, xi_pi, xi_pl, xl_pi, xl_pl, xb_pi, xb_pl, xqi_i, xql_l, xqv_v, xqi_e, xql_e, xqv_e, forall_eq, true_and, and_true]
  refine p_width (by omega) ?_
  simp (disch := omega) only [i32_lit, l64_lit, lc_eq, lc_ge, lc_le, lc_gt, lc_lt, jL_inj, jL_add, jL_sub, jL_mul, jL_neg, jL_and, jL_or, jL_xor, jL_mone, BitVec.xor_allOnes, nI_clamp, nI_ltI, nI_leI, nI_eq, nI_1, nI_add, nI_sub, nI_addm, nI_mul, vp_in_n, xi_pi, xi_pl, xl_pi, xl_pl, xb_pi, xb_pl, xqi_i, xql_l, xqv_v, xqi_e, xql_e, xqv_e, forall_eq, true_and, and_true]
  refine p_mask hk.2.1 ?_
  simp (disch := omega) only [i32_lit, l64_lit, lc_eq, lc_ge, lc_le, lc_gt, lc_lt, jL_inj, jL_add, jL_sub, jL_mul, jL_neg, jL_and, jL_or, jL_xor, jL_mone, BitVec.xor_allOnes, nI_clamp, nI_ltI, nI_leI, nI_eq, nI_1, nI_add, nI_sub, nI_addm, nI_mul, vp_in_n, xi_pi, xi_pl, xl_pi, xl_pl, xb_pi, xb_pl, xqi_i, xql_l, xqv_v, xqi_e, xql_e, xqv_e, forall_eq, true_and, and_true, hv, jL_shl _ (show csh (bso B a) c.toNat < 64 by omega)]
  exact k
/-- the arguments' worth is below what their sorts hold -/
def vbd (B : Bk) (v : Nat → BitVec 64) (t : Nat) : Prop := ∀ i, bfi B t ≤ i → i < bfi B (t + 1) → (v (bar B i)).toNat < 2 ^ min 64 (szs (bso B (bar B i)))
theorem vec_sz {s : Nat} (h1 : 1 ≤ s) (h2 : s ≤ 64) : min 64 (szs s) = s := by
  unfold szs
  rw [if_neg (by omega), show s / 128 = 0 by omega, show s % 128 = s by omega]
  simp
  omega
theorem e_applied_40 (h : RC B σ) (w : wfB B) (ht : t < bma B) (hv : wth B σ 41 v t) (vb : vbd B v t) (hS : bsz B ≤ 16) (n7 : bop B t ≠ 47) (n8 : bop B t ≠ 48)
    (k : Q (.inl (some (.long (jL (appl B v t))))) σ) : wp_Evaluator_applied_40 Q σ (nI t) (nI (bop B t)) (nI (bfi B t)) := by
  have hm := wf_ma w
  obtain ⟨f1, f2, f3⟩ := wf_fi w ht
  have ty := wf_ty w ht
  have hop := typ_op ty
  have hne : 1 ≤ bfi B (t + 1) - bfi B t := by
    have := ty
    unfold typ at this
    dsimp only at this
    split at this <;> omega
  have aso : ∀ i, bfi B t ≤ i → i < bfi B (t + 1) → okS (bso B (bar B i)) := fun i h1 h2 => wf_so w (by have := wf_ar w ht h1 h2; omega)
  have asz : ∀ i, bfi B t ≤ i → i < bfi B (t + 1) → 128 ≤ bso B (bar B i) → szs (bso B (bar B i)) ≤ 16 := fun i h1 h2 h3 => Nat.le_trans ((w.2.2.2.1 _ (by have := wf_ar w ht h1 h2; omega)).2.2 h3) hS
  have ix : 2 ≤ bfi B (t + 1) - bfi B t → 128 ≤ bso B (bar B (bfi B t)) → bso B (bar B (bfi B t + 1)) = bso B (bar B (bfi B t)) / 128 → (v (bar B (bfi B t + 1))).toNat < 2 ^ (bso B (bar B (bfi B t)) / 128) := by
    intro h1 h2 h3
    have h4 := vb (bfi B t + 1) (by omega) (by omega)
    have h5 := aso (bfi B t) (by omega) (by omega)
    have h6 := h5.1
    rw [h3, vec_sz (by omega) (by omega)] at h4
    exact h4
  unfold wp_Evaluator_applied_40
  simp (disch := omega) only [i32_lit, l64_lit, lc_eq, lc_ge, lc_le, lc_gt, lc_lt, jL_inj, jL_add, jL_sub, jL_mul, jL_neg, jL_and, jL_or, jL_xor, jL_mone, BitVec.xor_allOnes, nI_clamp, nI_ltI, nI_leI, nI_eq, nI_1, nI_add, nI_sub, nI_addm, nI_mul, vp_in_n, xi_pi, xi_pl, xl_pi, xl_pl, xb_pi, xb_pl, xqi_i, xql_l, xqv_v, xqi_e, xql_e, xqv_e, forall_eq, true_and, and_true, rc_ar h, ar_cl w ht, ar_in w ht, hv _]
  refine ⟨fun z => ?_, fun z => ?_, fun z => ?_, fun z => ?_, fun z => ?_, fun z => ?_, fun z => ?_, fun z => ?_, fun z => ?_, fun z => ?_, fun z => ?_, fun z => ?_, fun z => ?_, fun z => ?_, fun z => ?_⟩
  · have y := ty_10 ty z
    rw [ap_10 z] at k
    simp (disch := omega) only [i32_lit, l64_lit, lc_eq, lc_ge, lc_le, lc_gt, lc_lt, jL_inj, jL_add, jL_sub, jL_mul, jL_neg, jL_and, jL_or, jL_xor, jL_mone, BitVec.xor_allOnes, nI_clamp, nI_ltI, nI_leI, nI_eq, nI_1, nI_add, nI_sub, nI_addm, nI_mul, vp_in_n, xi_pi, xi_pl, xl_pi, xl_pl, xb_pi, xb_pl, xqi_i, xql_l, xqv_v, xqi_e, xql_e, xqv_e, forall_eq, true_and, and_true, rc_lo h, jL_ushr _ (show blo B t < 64 by omega)]
    exact k
  · rw [ap_11 z] at k
    exact k
  · have y := ty_12 ty z
    rw [ap_12 z] at k
    simp (disch := omega) only [i32_lit, l64_lit, lc_eq, lc_ge, lc_le, lc_gt, lc_lt, jL_inj, jL_add, jL_sub, jL_mul, jL_neg, jL_and, jL_or, jL_xor, jL_mone, BitVec.xor_allOnes, nI_clamp, nI_ltI, nI_leI, nI_eq, nI_1, nI_add, nI_sub, nI_addm, nI_mul, vp_in_n, xi_pi, xi_pl, xl_pi, xl_pl, xb_pi, xb_pl, xqi_i, xql_l, xqv_v, xqi_e, xql_e, xqv_e, forall_eq, true_and, and_true, ar_so w ht h]
    exact p_signed (by omega) (by omega) k
  · rcases z with z | z
    · rw [ap_13 z] at k; exact k
    · rw [ap_21 z] at k; exact k
  · rcases z with z | z | z | z | z | z | z | z
    · rw [ap_14 z] at k; rw [z]; exact e_folded_40 h w ht hne (by decide) hv k
    · rw [ap_15 z] at k; rw [z]; exact e_folded_40 h w ht hne (by decide) hv k
    · rw [ap_16 z] at k; rw [z]; exact e_folded_40 h w ht hne (by decide) hv k
    · rw [ap_23 z] at k; rw [z]; exact e_folded_40 h w ht hne (by decide) hv k
    · rw [ap_24 z] at k; rw [z]; exact e_folded_40 h w ht hne (by decide) hv k
    · rw [ap_25 z] at k; rw [z]; exact e_folded_40 h w ht hne (by decide) hv k
    · rw [ap_26 z] at k; rw [z]; exact e_folded_40 h w ht hne (by decide) hv k
    · rw [ap_27 z] at k; rw [z]; exact e_folded_40 h w ht hne (by decide) hv k
  · have y := ty_17 ty z
    rw [ap_17 z] at k
    exact e_implication_40 h w ht y.1 hv k
  · have y := ty_18 ty z
    rw [ap_18 z] at k
    simp (disch := omega) only [i32_lit, l64_lit, lc_eq, lc_ge, lc_le, lc_gt, lc_lt, jL_inj, jL_add, jL_sub, jL_mul, jL_neg, jL_and, jL_or, jL_xor, jL_mone, BitVec.xor_allOnes, nI_clamp, nI_ltI, nI_leI, nI_eq, nI_1, nI_add, nI_sub, nI_addm, nI_mul, vp_in_n, xi_pi, xi_pl, xl_pi, xl_pl, xb_pi, xb_pl, xqi_i, xql_l, xqv_v, xqi_e, xql_e, xqv_e, forall_eq, true_and, and_true, rc_ar h, ar_cl w ht, ar_in w ht, hv _]
    refine ⟨fun q => ?_, fun q => ?_⟩
    · rw [if_pos q] at k; exact k
    · rw [if_neg q] at k; exact k
  · have y := ty_19 ty z
    rw [ap_19 z] at k
    refine e_isAllSame_40 h w ht hne hv (fun q => ?_) (fun q => ?_)
    · rw [bit_t q] at k; exact ⟨fun y => absurd y (by decide), fun _ => k⟩
    · rw [bit_f q] at k; exact ⟨fun _ => k, fun y => absurd rfl y⟩
  · have y := ty_20 ty z
    rw [ap_20 z] at k
    refine e_isAllOther_40 h w ht hne hv (fun q => ?_) (fun q => ?_)
    · rw [bit_t q] at k; exact ⟨fun y => absurd y (by decide), fun _ => k⟩
    · rw [bit_f q] at k; exact ⟨fun _ => k, fun y => absurd rfl y⟩
  · rw [ap_22 z] at k
    exact k
  · have z2 : 36 ≤ bop B t ∧ bop B t ≤ 43 := by omega
    have y : bfi B (t + 1) - bfi B t = 2 ∧ 1 ≤ bso B (bar B (bfi B t)) ∧ bso B (bar B (bfi B t)) ≤ 64 := by
      rcases z with z | z | z | z | z | z | z | z
      · have := ty_36 ty z; omega
      · have := ty_37 ty z; omega
      · have := ty_38 ty z; omega
      · have := ty_39 ty z; omega
      · have := ty_40 ty z; omega
      · have := ty_41 ty z; omega
      · have := ty_42 ty z; omega
      · have := ty_43 ty z; omega
    have ka : appl B v t = bit (cmpA (bop B t) (v (bar B (bfi B t))) (v (bar B (bfi B t + 1))) (bso B (bar B (bfi B t)))) := by
      rcases z with z | z | z | z | z | z | z | z
      · rw [ap_36 z, z]
      · rw [ap_37 z, z]
      · rw [ap_38 z, z]
      · rw [ap_39 z, z]
      · rw [ap_40 z, z]
      · rw [ap_41 z, z]
      · rw [ap_42 z, z]
      · rw [ap_43 z, z]
    rw [ka] at k
    simp (disch := omega) only [i32_lit, l64_lit, lc_eq, lc_ge, lc_le, lc_gt, lc_lt, jL_inj, jL_add, jL_sub, jL_mul, jL_neg, jL_and, jL_or, jL_xor, jL_mone, BitVec.xor_allOnes, nI_clamp, nI_ltI, nI_leI, nI_eq, nI_1, nI_add, nI_sub, nI_addm, nI_mul, vp_in_n, xi_pi, xi_pl, xl_pi, xl_pl, xb_pi, xb_pl, xqi_i, xql_l, xqv_v, xqi_e, xql_e, xqv_e, forall_eq, true_and, and_true, rc_ar h, ar_cl w ht, ar_in w ht, ar_so w ht h, hv _]
    refine p_compare z2.1 z2.2 y.2.1 y.2.2 (fun q => ?_) (fun q => ?_)
    · rw [bit_t q] at k; exact ⟨fun y => absurd y (by decide), fun _ => k⟩
    · rw [bit_f q] at k; exact ⟨fun _ => k, fun y => absurd rfl y⟩
  · have y := ty_44 ty z
    rw [ap_44 z] at k
    exact e_concat_40 h w ht (fun i hi => (y.2.1 i hi).2) hv k
  · have y := ty_45 ty z
    rw [ap_45 z] at k
    have ok0 := aso (bfi B t) (by omega) (by omega)
    have sz0 := asz (bfi B t) (by omega) (by omega) y.2.1
    have cl := csh_lt (c := (v (bar B (bfi B t + 1))).toNat) ok0 y.2.1
    simp (disch := omega) only [i32_lit, l64_lit, lc_eq, lc_ge, lc_le, lc_gt, lc_lt, jL_inj, jL_add, jL_sub, jL_mul, jL_neg, jL_and, jL_or, jL_xor, jL_mone, BitVec.xor_allOnes, nI_clamp, nI_ltI, nI_leI, nI_eq, nI_1, nI_add, nI_sub, nI_addm, nI_mul, vp_in_n, xi_pi, xi_pl, xl_pi, xl_pl, xb_pi, xb_pl, xqi_i, xql_l, xqv_v, xqi_e, xql_e, xqv_e, forall_eq, true_and, and_true, rc_ar h, ar_cl w ht, ar_in w ht, ar_so w ht h, hv _]
    exact p_cell ok0 (ix (by omega) y.2.1 y.2.2.1) (by omega) k
  · have y := ty_46 ty z
    rw [ap_46 z] at k
    have ok0 := aso (bfi B t) (by omega) (by omega)
    have sz0 := asz (bfi B t) (by omega) (by omega) y.2.1
    have a0 := wf_ar w ht (i := bfi B t) (by omega) (by omega)
    simp (disch := omega) only [i32_lit, l64_lit, lc_eq, lc_ge, lc_le, lc_gt, lc_lt, jL_inj, jL_add, jL_sub, jL_mul, jL_neg, jL_and, jL_or, jL_xor, jL_mone, BitVec.xor_allOnes, nI_clamp, nI_ltI, nI_leI, nI_eq, nI_1, nI_add, nI_sub, nI_addm, nI_mul, vp_in_n, xi_pi, xi_pl, xl_pi, xl_pl, xb_pi, xb_pl, xqi_i, xql_l, xqv_v, xqi_e, xql_e, xqv_e, forall_eq, true_and, and_true, rc_ar h, ar_cl w ht, ar_in w ht, ar_so w ht h, hv _]
    exact e_store_40 h w (by omega) y.2.1 (by omega) (ix (by omega) y.2.1 y.2.2.1) (hv _ (by omega) (by omega)) k
  · have z2 : 28 ≤ bop B t ∧ bop B t ≤ 35 := by omega
    have zz : bop B t = 28 ∨ bop B t = 29 ∨ bop B t = 30 ∨ bop B t = 31 ∨ bop B t = 32 ∨ bop B t = 33 ∨ bop B t = 34 ∨ bop B t = 35 := by omega
    have y : bfi B (t + 1) - bfi B t = 2 ∧ 1 ≤ bso B (bar B (bfi B t)) ∧ bso B (bar B (bfi B t)) ≤ 64 := by
      rcases zz with z | z | z | z | z | z | z | z
      · have := ty_28 ty z; omega
      · have := ty_29 ty z; omega
      · have := ty_30 ty z; omega
      · have := ty_31 ty z; omega
      · have := ty_32 ty z; omega
      · have := ty_33 ty z; omega
      · have := ty_34 ty z; omega
      · have := ty_35 ty z; omega
    have ka : appl B v t = two (bop B t) (v (bar B (bfi B t))) (v (bar B (bfi B t + 1))) (bso B (bar B (bfi B t))) := by
      rcases zz with z | z | z | z | z | z | z | z
      · rw [ap_28 z, z]
      · rw [ap_29 z, z]
      · rw [ap_30 z, z]
      · rw [ap_31 z, z]
      · rw [ap_32 z, z]
      · rw [ap_33 z, z]
      · rw [ap_34 z, z]
      · rw [ap_35 z, z]
    rw [ka] at k
    simp (disch := omega) only [i32_lit, l64_lit, lc_eq, lc_ge, lc_le, lc_gt, lc_lt, jL_inj, jL_add, jL_sub, jL_mul, jL_neg, jL_and, jL_or, jL_xor, jL_mone, BitVec.xor_allOnes, nI_clamp, nI_ltI, nI_leI, nI_eq, nI_1, nI_add, nI_sub, nI_addm, nI_mul, vp_in_n, xi_pi, xi_pl, xl_pi, xl_pl, xb_pi, xb_pl, xqi_i, xql_l, xqv_v, xqi_e, xql_e, xqv_e, forall_eq, true_and, and_true, rc_ar h, ar_cl w ht, ar_in w ht, ar_so w ht h, hv _]
    exact p_two z2.1 z2.2 y.2.1 y.2.2 k
/-- one term -/
theorem e_workOut_40 {S J : Nat} (h : RC B σ) (w : wfB B) (ht : t < bma B) (hv : wth B σ 41 v t) (vb : vbd B v t) (hS : bsz B ≤ 16) (h7 : bop B t = 47 → xl σ 41 t = jL (stp B S J v t))
    (k : ∀ σ', (∀ a b, xi σ' a b = xi σ a b) → (∀ a b, (a ≠ 41 ∨ b ≠ t) → xl σ' a b = xl σ a b) → xb σ' = xb σ → xl σ' 41 t = jL (stp B S J v t) → Q (.inl none) σ') : wp_Evaluator_workOut_40 Q σ (nI t) := by
  have hm := wf_ma w
  have hop := typ_op (wf_ty w ht)
  unfold wp_Evaluator_workOut_40
  simp (disch := omega) only [i32_lit, l64_lit, lc_eq, lc_ge, lc_le, lc_gt, lc_lt, jL_inj, jL_add, jL_sub, jL_mul, jL_neg, jL_and, jL_or, jL_xor, jL_mone, BitVec.xor_allOnes, nI_clamp, nI_ltI, nI_leI, nI_eq, nI_1, nI_add, nI_sub, nI_addm, nI_mul, vp_in_n, xi_pi, xi_pl, xl_pi, xl_pl, xb_pi, xb_pl, xqi_i, xql_l, xqv_v, xqi_e, xql_e, xqv_e, forall_eq, true_and, and_true, rc_op h, rc_fi h, rc_bi h]
  refine ⟨fun z => ⟨fun y => ?_, fun y => ?_⟩, fun z => ?_⟩
  · exact k σ (fun _ _ => rfl) (fun _ _ _ => rfl) rfl (h7 y)
  · refine e_applied_40 h w ht hv vb hS y z ?_
    simp (disch := omega) only [i32_lit, l64_lit, lc_eq, lc_ge, lc_le, lc_gt, lc_lt, jL_inj, jL_add, jL_sub, jL_mul, jL_neg, jL_and, jL_or, jL_xor, jL_mone, BitVec.xor_allOnes, nI_clamp, nI_ltI, nI_leI, nI_eq, nI_1, nI_add, nI_sub, nI_addm, nI_mul, vp_in_n, xi_pi, xi_pl, xl_pi, xl_pl, xb_pi, xb_pl, xqi_i, xql_l, xqv_v, xqi_e, xql_e, xqv_e, forall_eq, true_and, and_true, rc_fu h]
    refine k _ (fun _ _ => rfl) (fun a b q => ?_) rfl ?_
    · rw [xl_pl, if_neg (by omega)]
    · rw [xl_pl, if_pos ⟨rfl, rfl⟩]
      unfold stp
      rw [if_neg y, if_neg z]
  · refine k _ (fun _ _ => rfl) (fun a b q => ?_) rfl ?_
    · rw [xl_pl, if_neg (by omega)]
    · rw [xl_pl, if_pos ⟨rfl, rfl⟩]
      unfold stp
      rw [if_neg (by omega), if_pos z]
end EVAL2
