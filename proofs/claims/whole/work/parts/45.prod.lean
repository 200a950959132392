/-! products -/
def bcL (a : Int64) : Int32 :=
  let x1 := a - ((jlushr a 1) &&& 6148914691236517205)
  let x2 := (x1 &&& 3689348814741910323) + ((jlushr x1 2) &&& 3689348814741910323)
  let x3 := (x2 + (jlushr x2 4)) &&& 1085102592571150095
  let x4 := x3 + (jlushr x3 8)
  let x5 := x4 + (jlushr x4 16)
  let x6 := x5 + (jlushr x5 32)
  x6.toInt32 &&& 127
theorem bcL_bm : ∀ j, j ≤ 64 → bcL (jL (bm j)) = nI j := by
  have h : ∀ j, j < 65 → bcL (jL (bm j)) = nI j := by decide +kernel
  exact fun j hj => h j (by omega)
section PROD
variable {Q : xO → xS → Prop} {σ : xS} {B : Bk} {kn on : Nat → BitVec 64} {t : Nat}
theorem p_bitCountL {a : Int64} (k : Q (.inl (some (.int (bcL a)))) σ) : wp_Long_bitCount Q σ a := by
  intro x1 e1 x2 e2 x3 e3 x4 e4 x5 e5 x6 e6
  subst e1 e2 e3 e4 e5 e6
  exact k
theorem p_bitCount {j : Nat} (hj : j ≤ 64) (k : Q (.inl (some (.int (nI j)))) σ) : wp_Long_bitCount Q σ (jL (bm j)) := p_bitCountL (by rw [bcL_bm j hj]; exact k)
/-- how long the lowest run is -/
theorem lr_ex (a : BitVec 64) : ∃ j, j ≤ 64 ∧ lrun a = bm j := by
  obtain ⟨j, h1, h2, -⟩ := lrun_spec a
  exact ⟨j, h1, h2⟩
noncomputable def lr (a : BitVec 64) : Nat := (lr_ex a).choose
theorem lr_le (a : BitVec 64) : lr a ≤ 64 := (lr_ex a).choose_spec.1
theorem lr_bm (a : BitVec 64) : lrun a = bm (lr a) := (lr_ex a).choose_spec.2
theorem bm_inj {a b : Nat} (ha : a ≤ 64) (hb : b ≤ 64) (h : bm a = bm b) : a = b := by
  have h1 := congrArg BitVec.toNat h
  rw [bm_nat ha, bm_nat hb] at h1
  have p1 := Nat.two_pow_pos a
  have p2 := Nat.two_pow_pos b
  have e : 2 ^ a = 2 ^ b := by omega
  rcases Nat.lt_trichotomy a b with q | q | q
  · have := Nat.pow_lt_pow_right (a := 2) (by decide) q; omega
  · exact q
  · have := Nat.pow_lt_pow_right (a := 2) (by decide) q; omega
theorem lr_bits (a : BitVec 64) : (∀ i, i < lr a → a.getLsbD i = true) ∧ (lr a < 64 → a.getLsbD (lr a) = false) := by
  obtain ⟨j, h1, h2, h3, h4⟩ := lrun_spec a
  have : lr a = j := bm_inj (lr_le a) h1 (by rw [← lr_bm, h2])
  rw [this]
  exact ⟨h3, h4⟩
theorem p_maskw {w : Nat} (h : w < 2147483648) (k : Q (.inl (some (.long (jL (bm (min 64 w)))))) σ) : wp_Words_mask Q σ (nI w) := by
  by_cases e : w ≤ 64
  · rw [Nat.min_eq_right e] at k
    exact p_mask e k
  · rw [Nat.min_eq_left (by omega)] at k
    unfold wp_Words_mask
    refine ⟨fun z => ?_, fun z => ?_⟩
    · have := (nI_ltI (b := 64) h (by decide)).mp z
      omega
    · rw [jL_m1, ← bm_64]
      exact k
theorem p_min {a b : Nat} (ha : a < 2147483648) (hb : b < 2147483648) (k : Q (.inl (some (.int (nI (min a b))))) σ) : wp_Math_min Q σ (nI a) (nI b) := by
  unfold wp_Math_min
  simp (disch := omega) only [i32_lit, l64_lit, lc_eq, lc_ge, lc_le, lc_gt, lc_lt, jL_inj, jL_add, jL_sub, jL_mul, jL_neg, jL_and, jL_or, jL_xor, jL_mone, BitVec.xor_allOnes, nI_clamp, nI_ltI, nI_leI, nI_eq, nI_1, nI_add, nI_sub, nI_addm, nI_mul, vp_in_n, xi_pi, xi_pl, xl_pi, xl_pl, xb_pi, xb_pl, xqi_i, xql_l, xqv_v, xqi_e, xql_e, xqv_e, forall_eq, true_and, and_true]
  refine ⟨fun z => ?_, fun z => ?_⟩
  · first
    | (rw [Nat.min_eq_left (by omega)] at k; exact k)
    | (rw [Nat.min_eq_right (by omega)] at k; exact k)
  · first
    | (rw [Nat.min_eq_left (by omega)] at k; exact k)
    | (rw [Nat.min_eq_right (by omega)] at k; exact k)
/-- what is known of a product: how many of its lowest bits, and a number that has them -/
noncomputable def prodK (W : Nat) (k o : Nat → BitVec 64) : Nat → Nat × BitVec 64
  | 0 => (W, 1#64)
  | n + 1 => (min (min ((prodK W k o n).1 + lr (k n &&& ~~~ o n)) (lr (k n) + lr (bm (prodK W k o n).1 &&& ~~~ (prodK W k o n).2))) W, ((prodK W k o n).2 &&& bm (prodK W k o n).1) * (o n &&& bm (lr (k n))))
theorem c_product (h : RC B σ) (w : wfB B) (ht : t < bma B) (hs : 1 ≤ bso B t) (hs2 : bso B t ≤ 64) (hk : wth B σ 45 kn t) (ho : wth B σ 46 on t)
    (q : ∀ r, r = prodK (bso B t) (fun i => kn (bar B (bfi B t + i))) (fun i => on (bar B (bfi B t + i))) (bfi B (t + 1) - bfi B t) → ∀ σ', lrnd σ t (bm r.1) r.2 σ' → Q (.inl none) σ') : wp_Checker_workOutProduct Q σ (nI t) := by
  have hm := wf_ma w
  obtain ⟨f1, f2, f3⟩ := wf_fi w ht
  have hf : bful B t = bm (bso B t) := by unfold bful; rw [vec_sz hs hs2]
  have key := loop_i (σ := Nat × BitVec 64) (fun n i a => w_Checker_workOutProduct_24 Q n (nI t) (jL (bm a.1)) (jL a.2) (nI i) σ) (fun i a => bfi B t ≤ i ∧ a.1 ≤ bso B t ∧ a = prodK (bso B t) (fun i => kn (bar B (bfi B t + i))) (fun i => on (bar B (bfi B t + i))) (i - bfi B t)) (bfi B (t + 1)) (fun n a hI => ?_) (fun n i a hi hI hs => ?_)
  · unfold wp_Checker_workOutProduct
    simp (disch := omega) only [i32_lit, l64_lit, lc_eq, lc_ge, lc_le, lc_gt, lc_lt, jL_inj, jL_add, jL_sub, jL_mul, jL_neg, jL_and, jL_or, jL_xor, jL_mone, BitVec.xor_allOnes, nI_clamp, nI_ltI, nI_leI, nI_eq, nI_1, nI_add, nI_sub, nI_addm, nI_mul, vp_in_n, xi_pi, xi_pl, xl_pi, xl_pl, xb_pi, xb_pl, xqi_i, xql_l, xqv_v, xqi_e, xql_e, xqv_e, forall_eq, true_and, and_true, rc_fi h, rc_fu h, hf]
    exact ⟨_, key (bfi B (t + 1) - bfi B t + 1) (bfi B t) (bso B t, 1#64) (by omega) (by omega) ⟨by omega, Nat.le_refl _, by rw [Nat.sub_self]; rfl⟩⟩
  · unfold w_Checker_workOutProduct_24
    simp (disch := omega) only [i32_lit, l64_lit, lc_eq, lc_ge, lc_le, lc_gt, lc_lt, jL_inj, jL_add, jL_sub, jL_mul, jL_neg, jL_and, jL_or, jL_xor, jL_mone, BitVec.xor_allOnes, nI_clamp, nI_ltI, nI_leI, nI_eq, nI_1, nI_add, nI_sub, nI_addm, nI_mul, vp_in_n, xi_pi, xi_pl, xl_pi, xl_pl, xb_pi, xb_pl, xqi_i, xql_l, xqv_v, xqi_e, xql_e, xqv_e, forall_eq, true_and, and_true, rc_fi h]
    exact ⟨fun _ => c_learn (by omega) (q a hI.2.2), fun z => absurd (Nat.le_refl _) z⟩
  · unfold w_Checker_workOutProduct_24
    obtain ⟨h1, h2, h3⟩ := hI
    have l1 := lr_le (kn (bar B i))
    have l2 := lr_le (kn (bar B i) &&& ~~~ on (bar B i))
    have l3 := lr_le (bm a.1 &&& ~~~ a.2)
    simp (disch := omega) only [i32_lit, l64_lit, lc_eq, lc_ge, lc_le, lc_gt, lc_lt, jL_inj, jL_add, jL_sub, jL_mul, jL_neg, jL_and, jL_or, jL_xor, jL_mone, BitVec.xor_allOnes, nI_clamp, nI_ltI, nI_leI, nI_eq, nI_1, nI_add, nI_sub, nI_addm, nI_mul, vp_in_n, xi_pi, xi_pl, xl_pi, xl_pl, xb_pi, xb_pl, xqi_i, xql_l, xqv_v, xqi_e, xql_e, xqv_e, forall_eq, true_and, and_true, rc_fi h, rc_ar h, ar_cl w ht, ar_in w ht, hk _, ho _]
    refine ⟨fun z => absurd z (by omega), fun _ => ?_⟩
    refine p_lowestRun ?_
    rw [show (~~~ kn (bar B i) &&& kn (bar B i) + 1#64) - 1#64 = bm (lr (kn (bar B i))) from lr_bm _]
    simp (disch := omega) only [i32_lit, l64_lit, lc_eq, lc_ge, lc_le, lc_gt, lc_lt, jL_inj, jL_add, jL_sub, jL_mul, jL_neg, jL_and, jL_or, jL_xor, jL_mone, BitVec.xor_allOnes, nI_clamp, nI_ltI, nI_leI, nI_eq, nI_1, nI_add, nI_sub, nI_addm, nI_mul, vp_in_n, xi_pi, xi_pl, xl_pi, xl_pl, xb_pi, xb_pl, xqi_i, xql_l, xqv_v, xqi_e, xql_e, xqv_e, forall_eq, true_and, and_true, rc_fi h, rc_ar h, ar_cl w ht, ar_in w ht, hk _, ho _]
    refine p_lowestRun ?_
    rw [show (~~~ (kn (bar B i) &&& ~~~ on (bar B i)) &&& (kn (bar B i) &&& ~~~ on (bar B i)) + 1#64) - 1#64 = bm (lr (kn (bar B i) &&& ~~~ on (bar B i))) from lr_bm _]
    simp (disch := omega) only [i32_lit, l64_lit, lc_eq, lc_ge, lc_le, lc_gt, lc_lt, jL_inj, jL_add, jL_sub, jL_mul, jL_neg, jL_and, jL_or, jL_xor, jL_mone, BitVec.xor_allOnes, nI_clamp, nI_ltI, nI_leI, nI_eq, nI_1, nI_add, nI_sub, nI_addm, nI_mul, vp_in_n, xi_pi, xi_pl, xl_pi, xl_pl, xb_pi, xb_pl, xqi_i, xql_l, xqv_v, xqi_e, xql_e, xqv_e, forall_eq, true_and, and_true]
    refine p_bitCount l2 ?_
    simp (disch := omega) only [i32_lit, l64_lit, lc_eq, lc_ge, lc_le, lc_gt, lc_lt, jL_inj, jL_add, jL_sub, jL_mul, jL_neg, jL_and, jL_or, jL_xor, jL_mone, BitVec.xor_allOnes, nI_clamp, nI_ltI, nI_leI, nI_eq, nI_1, nI_add, nI_sub, nI_addm, nI_mul, vp_in_n, xi_pi, xi_pl, xl_pi, xl_pl, xb_pi, xb_pl, xqi_i, xql_l, xqv_v, xqi_e, xql_e, xqv_e, forall_eq, true_and, and_true]
    refine p_lowestRun ?_
    rw [show (~~~ (bm a.1 &&& ~~~ a.2) &&& (bm a.1 &&& ~~~ a.2) + 1#64) - 1#64 = bm (lr (bm a.1 &&& ~~~ a.2)) from lr_bm _]
    simp (disch := omega) only [i32_lit, l64_lit, lc_eq, lc_ge, lc_le, lc_gt, lc_lt, jL_inj, jL_add, jL_sub, jL_mul, jL_neg, jL_and, jL_or, jL_xor, jL_mone, BitVec.xor_allOnes, nI_clamp, nI_ltI, nI_leI, nI_eq, nI_1, nI_add, nI_sub, nI_addm, nI_mul, vp_in_n, xi_pi, xi_pl, xl_pi, xl_pl, xb_pi, xb_pl, xqi_i, xql_l, xqv_v, xqi_e, xql_e, xqv_e, forall_eq, true_and, and_true]
    refine p_bitCount l3 ?_
    simp (disch := omega) only [i32_lit, l64_lit, lc_eq, lc_ge, lc_le, lc_gt, lc_lt, jL_inj, jL_add, jL_sub, jL_mul, jL_neg, jL_and, jL_or, jL_xor, jL_mone, BitVec.xor_allOnes, nI_clamp, nI_ltI, nI_leI, nI_eq, nI_1, nI_add, nI_sub, nI_addm, nI_mul, vp_in_n, xi_pi, xi_pl, xl_pi, xl_pl, xb_pi, xb_pl, xqi_i, xql_l, xqv_v, xqi_e, xql_e, xqv_e, forall_eq, true_and, and_true]
    refine p_bitCount (by omega) ?_
    simp (disch := omega) only [i32_lit, l64_lit, lc_eq, lc_ge, lc_le, lc_gt, lc_lt, jL_inj, jL_add, jL_sub, jL_mul, jL_neg, jL_and, jL_or, jL_xor, jL_mone, BitVec.xor_allOnes, nI_clamp, nI_ltI, nI_leI, nI_eq, nI_1, nI_add, nI_sub, nI_addm, nI_mul, vp_in_n, xi_pi, xi_pl, xl_pi, xl_pl, xb_pi, xb_pl, xqi_i, xql_l, xqv_v, xqi_e, xql_e, xqv_e, forall_eq, true_and, and_true]
    refine p_bitCount l1 ?_
    simp (disch := omega) only [i32_lit, l64_lit, lc_eq, lc_ge, lc_le, lc_gt, lc_lt, jL_inj, jL_add, jL_sub, jL_mul, jL_neg, jL_and, jL_or, jL_xor, jL_mone, BitVec.xor_allOnes, nI_clamp, nI_ltI, nI_leI, nI_eq, nI_1, nI_add, nI_sub, nI_addm, nI_mul, vp_in_n, xi_pi, xi_pl, xl_pi, xl_pl, xb_pi, xb_pl, xqi_i, xql_l, xqv_v, xqi_e, xql_e, xqv_e, forall_eq, true_and, and_true]
    refine p_min (by omega) (by omega) ?_
    simp (disch := omega) only [i32_lit, l64_lit, lc_eq, lc_ge, lc_le, lc_gt, lc_lt, jL_inj, jL_add, jL_sub, jL_mul, jL_neg, jL_and, jL_or, jL_xor, jL_mone, BitVec.xor_allOnes, nI_clamp, nI_ltI, nI_leI, nI_eq, nI_1, nI_add, nI_sub, nI_addm, nI_mul, vp_in_n, xi_pi, xi_pl, xl_pi, xl_pl, xb_pi, xb_pl, xqi_i, xql_l, xqv_v, xqi_e, xql_e, xqv_e, forall_eq, true_and, and_true, ar_cl w ht, ar_in w ht, ho _]
    refine p_maskw (by omega) ?_
    simp (disch := omega) only [i32_lit, l64_lit, lc_eq, lc_ge, lc_le, lc_gt, lc_lt, jL_inj, jL_add, jL_sub, jL_mul, jL_neg, jL_and, jL_or, jL_xor, jL_mone, BitVec.xor_allOnes, nI_clamp, nI_ltI, nI_leI, nI_eq, nI_1, nI_add, nI_sub, nI_addm, nI_mul, vp_in_n, xi_pi, xi_pl, xl_pi, xl_pl, xb_pi, xb_pl, xqi_i, xql_l, xqv_v, xqi_e, xql_e, xqv_e, forall_eq, true_and, and_true, rc_fu h, hf, bm_min]
    rw [show min (min 64 (min (a.1 + lr (kn (bar B i) &&& ~~~ on (bar B i))) (lr (kn (bar B i)) + lr (bm a.1 &&& ~~~ a.2)))) (bso B t) = min (min (a.1 + lr (kn (bar B i) &&& ~~~ on (bar B i))) (lr (kn (bar B i)) + lr (bm a.1 &&& ~~~ a.2))) (bso B t) by omega]
    refine hs (_, (a.2 &&& bm a.1) * (on (bar B i) &&& bm (lr (kn (bar B i))))) ⟨by omega, by show min _ _ ≤ _; omega, ?_⟩
    rw [show i + 1 - bfi B t = i - bfi B t + 1 by omega, h3]
    simp only [prodK, show bfi B t + (i - bfi B t) = i by omega]
end PROD
