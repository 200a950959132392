section CHK2
variable {Q : xO → xS → Prop} {σ : xS} {B : Bk} {kn on : Nat → BitVec 64} {t : Nat}
theorem c_or {im : Bool} (h : RC B σ) (w : wfB B) (ht : t < bma B) (hn : 1 ≤ bfi B (t + 1) - bfi B t) (hk : wth B σ 45 kn t) (ho : wth B σ 46 on t)
    (q : ∀ r, r = orK (bful B t) (fun i => kn (bar B (bfi B t + i))) (fun i => on (bar B (bfi B t + i))) (if im then tnI (fun i => kn (bar B (bfi B t + i))) (bfi B (t + 1) - bfi B t) else fun _ => 0#64) (bfi B (t + 1) - bfi B t) → ∀ σ', lrnd σ t (r.1 ||| r.2) r.1 σ' → Q (.inl none) σ') : wp_Checker_workOutOr Q σ (nI t) (bI im) := by
  have hm := wf_ma w
  obtain ⟨f1, f2, f3⟩ := wf_fi w ht
  generalize hT : (if im then tnI (fun i => kn (bar B (bfi B t + i))) (bfi B (t + 1) - bfi B t) else fun _ => 0#64) = tn at q
  have key := loop_i (σ := BitVec 64 × BitVec 64) (fun n i a => w_Checker_workOutOr_39 Q n (nI t) (bI im) (jL a.1) (jL a.2) (nI (bfi B (t + 1) - 1)) (nI i) σ) (fun i a => bfi B t ≤ i ∧ a = orK (bful B t) (fun i => kn (bar B (bfi B t + i))) (fun i => on (bar B (bfi B t + i))) tn (i - bfi B t)) (bfi B (t + 1)) (fun n a hI => ?_) (fun n i a hi hI hs => ?_)
  · unfold wp_Checker_workOutOr
    simp (disch := omega) only [i32_lit, l64_lit, lc_eq, lc_ge, lc_le, lc_gt, lc_lt, jL_inj, jL_add, jL_sub, jL_mul, jL_neg, jL_and, jL_or, jL_xor, jL_mone, BitVec.xor_allOnes, nI_clamp, nI_ltI, nI_leI, nI_eq, nI_1, nI_add, nI_sub, nI_addm, nI_mul, vp_in_n, xi_pi, xi_pl, xl_pi, xl_pl, xb_pi, xb_pl, xqi_i, xql_l, xqv_v, xqi_e, xql_e, xqv_e, forall_eq, true_and, and_true, rc_fi h, rc_fu h]
    exact ⟨_, key (bfi B (t + 1) - bfi B t + 1) (bfi B t) (0#64, bful B t) (by omega) (by omega) ⟨by omega, by rw [Nat.sub_self]; rfl⟩⟩
  · unfold w_Checker_workOutOr_39
    simp (disch := omega) only [i32_lit, l64_lit, lc_eq, lc_ge, lc_le, lc_gt, lc_lt, jL_inj, jL_add, jL_sub, jL_mul, jL_neg, jL_and, jL_or, jL_xor, jL_mone, BitVec.xor_allOnes, nI_clamp, nI_ltI, nI_leI, nI_eq, nI_1, nI_add, nI_sub, nI_addm, nI_mul, vp_in_n, xi_pi, xi_pl, xl_pi, xl_pl, xb_pi, xb_pl, xqi_i, xql_l, xqv_v, xqi_e, xql_e, xqv_e, forall_eq, true_and, and_true]
    exact ⟨fun _ => c_learn (by omega) (q a hI.2), fun z => absurd (by omega) z⟩
  · unfold w_Checker_workOutOr_39
    obtain ⟨h1, h2⟩ := hI
    have ha := wf_ar w ht h1 hi
    have step : ∀ t0 : BitVec 64, tn (i - bfi B t) = t0 → w_Checker_workOutOr_80 Q (w_Checker_workOutOr_39 Q n) (nI t) (bI im) (jL a.1) (jL a.2) (nI (bfi B (t + 1) - 1)) (nI i) (nI (bar B i)) (jL t0) σ := by
      intro t0 e0
      unfold w_Checker_workOutOr_80
      simp (disch := omega) only [i32_lit, l64_lit, lc_eq, lc_ge, lc_le, lc_gt, lc_lt, jL_inj, jL_add, jL_sub, jL_mul, jL_neg, jL_and, jL_or, jL_xor, jL_mone, BitVec.xor_allOnes, nI_clamp, nI_ltI, nI_leI, nI_eq, nI_1, nI_add, nI_sub, nI_addm, nI_mul, vp_in_n, xi_pi, xi_pl, xl_pi, xl_pl, xb_pi, xb_pl, xqi_i, xql_l, xqv_v, xqi_e, xql_e, xqv_e, forall_eq, true_and, and_true, ar_cl w ht, ar_in w ht, hk _, ho _]
      refine hs (a.1 ||| (on (bar B i) ^^^ t0), a.2 &&& (kn (bar B i) &&& ~~~ (on (bar B i) ^^^ t0))) ⟨by omega, ?_⟩
      rw [show i + 1 - bfi B t = i - bfi B t + 1 by omega, h2]
      simp only [orK, show bfi B t + (i - bfi B t) = i by omega, e0]
    simp (disch := omega) only [i32_lit, l64_lit, lc_eq, lc_ge, lc_le, lc_gt, lc_lt, jL_inj, jL_add, jL_sub, jL_mul, jL_neg, jL_and, jL_or, jL_xor, jL_mone, BitVec.xor_allOnes, nI_clamp, nI_ltI, nI_leI, nI_eq, nI_1, nI_add, nI_sub, nI_addm, nI_mul, vp_in_n, xi_pi, xi_pl, xl_pi, xl_pl, xb_pi, xb_pl, xqi_i, xql_l, xqv_v, xqi_e, xql_e, xqv_e, forall_eq, true_and, and_true, rc_ar h, ar_cl w ht, ar_in w ht, hk _, bI_0]
    refine ⟨fun z => absurd z (by omega), fun _ => ⟨fun z => ?_, fun z => ⟨fun y => ?_, fun y => ?_⟩⟩⟩
    · unfold w_Checker_workOutOr_79
      refine step 0#64 ?_
      rw [← hT, z]
      rfl
    · unfold w_Checker_workOutOr_79
      refine step 0#64 ?_
      have : im = true := by cases im <;> simp_all
      rw [← hT, this, if_pos rfl, tnI, if_neg (by omega)]
    · refine step _ ?_
      have : im = true := by cases im <;> simp_all
      rw [← hT, this, if_pos rfl, tnI, if_pos (by omega), show bfi B t + (i - bfi B t) = i by omega]
def sOt (k l o p : BitVec 64) : Bool := decide (¬ (k &&& l &&& (o ^^^ p)) = 0#64)
def sSa (B : Bk) (kn on : Nat → BitVec 64) (a b : Nat) : Bool := decide (kn a = bful B a) && (decide (kn b = bful B b) && decide (on a = on b))
theorem c_isOther {a b : Nat} (h : RC B σ) (w : wfB B) (ha : a < bma B) (hb : b < bma B) (ka : xl σ 45 a = jL (kn a)) (kb : xl σ 45 b = jL (kn b)) (oa : xl σ 46 a = jL (on a)) (ob : xl σ 46 b = jL (on b))
    (q : Q (.inl (some (.int (bI (sOt (kn a) (kn b) (on a) (on b)))))) σ) : wp_Checker_isSurelyOther Q σ (nI a) (nI b) := by
  have hm := wf_ma w
  unfold wp_Checker_isSurelyOther
  simp (disch := omega) only [i32_lit, l64_lit, lc_eq, lc_ge, lc_le, lc_gt, lc_lt, jL_inj, jL_add, jL_sub, jL_mul, jL_neg, jL_and, jL_or, jL_xor, jL_mone, BitVec.xor_allOnes, nI_clamp, nI_ltI, nI_leI, nI_eq, nI_1, nI_add, nI_sub, nI_addm, nI_mul, vp_in_n, xi_pi, xi_pl, xl_pi, xl_pl, xb_pi, xb_pl, xqi_i, xql_l, xqv_v, xqi_e, xql_e, xqv_e, forall_eq, true_and, and_true, ka, kb, oa, ob]
  unfold sOt at q
  refine ⟨fun z => ?_, fun z => ?_⟩
  · rw [decide_eq_false (fun y => y z)] at q; exact q
  · rw [decide_eq_true z] at q; exact q
theorem c_isSame {a b : Nat} (h : RC B σ) (w : wfB B) (ha : a < bma B) (hb : b < bma B) (ka : xl σ 45 a = jL (kn a)) (kb : xl σ 45 b = jL (kn b)) (oa : xl σ 46 a = jL (on a)) (ob : xl σ 46 b = jL (on b))
    (q : Q (.inl (some (.int (bI (sSa B kn on a b))))) σ) : wp_Checker_isSurelySame Q σ (nI a) (nI b) := by
  have hm := wf_ma w
  unfold wp_Checker_isSurelySame
  unfold sSa at q
  refine c_isKnown h w ha ka (fun z => ?_) (fun z => ?_)
  · rw [decide_eq_true z, Bool.true_and] at q
    refine ⟨fun y => absurd y (by decide), fun _ => ?_⟩
    refine c_isKnown h w hb kb (fun z2 => ?_) (fun z2 => ?_)
    · rw [decide_eq_true z2, Bool.true_and] at q
      refine ⟨fun y => absurd y (by decide), fun _ => ?_⟩
      simp (disch := omega) only [i32_lit, l64_lit, lc_eq, lc_ge, lc_le, lc_gt, lc_lt, jL_inj, jL_add, jL_sub, jL_mul, jL_neg, jL_and, jL_or, jL_xor, jL_mone, BitVec.xor_allOnes, nI_clamp, nI_ltI, nI_leI, nI_eq, nI_1, nI_add, nI_sub, nI_addm, nI_mul, vp_in_n, xi_pi, xi_pl, xl_pi, xl_pl, xb_pi, xb_pl, xqi_i, xql_l, xqv_v, xqi_e, xql_e, xqv_e, forall_eq, true_and, and_true, oa, ob]
      refine ⟨fun z3 => ?_, fun z3 => ?_⟩
      · rw [decide_eq_false z3] at q; exact q
      · rw [decide_eq_true z3] at q; exact q
    · rw [decide_eq_false z2] at q
      exact ⟨fun _ => q, fun y => absurd rfl y⟩
  · rw [decide_eq_false z] at q
    exact ⟨fun _ => q, fun y => absurd rfl y⟩
def eqK (s o : Nat → Bool) : Nat → Bool × Bool
  | 0 => (true, false)
  | n + 1 => ((eqK s o n).1 && s n, (eqK s o n).2 || o n)
theorem c_equal (h : RC B σ) (w : wfB B) (ht : t < bma B) (hn : 1 ≤ bfi B (t + 1) - bfi B t) (hk : wth B σ 45 kn t) (ho : wth B σ 46 on t)
    (q : ∀ r, r = eqK (fun i => sSa B kn on (bar B (bfi B t)) (bar B (bfi B t + (i + 1)))) (fun i => sOt (kn (bar B (bfi B t))) (kn (bar B (bfi B t + (i + 1)))) (on (bar B (bfi B t))) (on (bar B (bfi B t + (i + 1))))) (bfi B (t + 1) - bfi B t - 1) →
      ∀ σ', lrnd σ t (if r.1 || r.2 then 1#64 else 0#64) (if r.1 then 1#64 else 0#64) σ' → Q (.inl none) σ') : wp_Checker_workOutEqual Q σ (nI t) := by
  have hm := wf_ma w
  obtain ⟨f1, f2, f3⟩ := wf_fi w ht
  generalize hS : (fun i => sSa B kn on (bar B (bfi B t)) (bar B (bfi B t + (i + 1)))) = S at q
  generalize hO : (fun i => sOt (kn (bar B (bfi B t))) (kn (bar B (bfi B t + (i + 1)))) (on (bar B (bfi B t))) (on (bar B (bfi B t + (i + 1))))) = O at q
  have a0 := wf_ar w ht (i := bfi B t) (by omega) (by omega)
  have key := loop_i (σ := Bool × Bool) (fun n i a => w_Checker_workOutEqual_36 Q n (nI t) (nI (bar B (bfi B t))) (bI a.1) (bI a.2) (nI i) σ) (fun i a => bfi B t + 1 ≤ i ∧ a = eqK S O (i - bfi B t - 1)) (bfi B (t + 1)) (fun n a hI => ?_) (fun n i a hi hI hs => ?_)
  · unfold wp_Checker_workOutEqual
    simp (disch := omega) only [i32_lit, l64_lit, lc_eq, lc_ge, lc_le, lc_gt, lc_lt, jL_inj, jL_add, jL_sub, jL_mul, jL_neg, jL_and, jL_or, jL_xor, jL_mone, BitVec.xor_allOnes, nI_clamp, nI_ltI, nI_leI, nI_eq, nI_1, nI_add, nI_sub, nI_addm, nI_mul, vp_in_n, xi_pi, xi_pl, xl_pi, xl_pl, xb_pi, xb_pl, xqi_i, xql_l, xqv_v, xqi_e, xql_e, xqv_e, forall_eq, true_and, and_true, rc_fi h, rc_ar h]
    exact ⟨_, key (bfi B (t + 1) - bfi B t) (bfi B t + 1) (true, false) (by omega) (by omega) ⟨by omega, by rw [show bfi B t + 1 - bfi B t - 1 = 0 by omega]; rfl⟩⟩
  · unfold w_Checker_workOutEqual_36
    simp (disch := omega) only [i32_lit, l64_lit, lc_eq, lc_ge, lc_le, lc_gt, lc_lt, jL_inj, jL_add, jL_sub, jL_mul, jL_neg, jL_and, jL_or, jL_xor, jL_mone, BitVec.xor_allOnes, nI_clamp, nI_ltI, nI_leI, nI_eq, nI_1, nI_add, nI_sub, nI_addm, nI_mul, vp_in_n, xi_pi, xi_pl, xl_pi, xl_pl, xb_pi, xb_pl, xqi_i, xql_l, xqv_v, xqi_e, xql_e, xqv_e, forall_eq, true_and, and_true, rc_fi h]
    exact ⟨fun _ => c_either (by omega) (q a hI.2), fun z => absurd (Nat.le_refl _) z⟩
  · unfold w_Checker_workOutEqual_36
    obtain ⟨h1, h2⟩ := hI
    have ai := wf_ar w ht (i := i) (by omega) hi
    simp (disch := omega) only [i32_lit, l64_lit, lc_eq, lc_ge, lc_le, lc_gt, lc_lt, jL_inj, jL_add, jL_sub, jL_mul, jL_neg, jL_and, jL_or, jL_xor, jL_mone, BitVec.xor_allOnes, nI_clamp, nI_ltI, nI_leI, nI_eq, nI_1, nI_add, nI_sub, nI_addm, nI_mul, vp_in_n, xi_pi, xi_pl, xl_pi, xl_pl, xb_pi, xb_pl, xqi_i, xql_l, xqv_v, xqi_e, xql_e, xqv_e, forall_eq, true_and, and_true, rc_fi h, rc_ar h]
    refine ⟨fun z => absurd z (by omega), fun _ => ?_⟩
    refine c_isSame (kn := kn) (on := on) h w (by omega) (by omega) (hk _ (by omega) (by omega)) (hk _ (by omega) hi) (ho _ (by omega) (by omega)) (ho _ (by omega) hi) ?_
    simp (disch := omega) only [i32_lit, l64_lit, lc_eq, lc_ge, lc_le, lc_gt, lc_lt, jL_inj, jL_add, jL_sub, jL_mul, jL_neg, jL_and, jL_or, jL_xor, jL_mone, BitVec.xor_allOnes, nI_clamp, nI_ltI, nI_leI, nI_eq, nI_1, nI_add, nI_sub, nI_addm, nI_mul, vp_in_n, xi_pi, xi_pl, xl_pi, xl_pl, xb_pi, xb_pl, xqi_i, xql_l, xqv_v, xqi_e, xql_e, xqv_e, forall_eq, true_and, and_true, rc_ar h]
    refine c_isOther (kn := kn) (on := on) h w (by omega) (by omega) (hk _ (by omega) (by omega)) (hk _ (by omega) hi) (ho _ (by omega) (by omega)) (ho _ (by omega) hi) ?_
    simp (disch := omega) only [i32_lit, l64_lit, lc_eq, lc_ge, lc_le, lc_gt, lc_lt, jL_inj, jL_add, jL_sub, jL_mul, jL_neg, jL_and, jL_or, jL_xor, jL_mone, BitVec.xor_allOnes, nI_clamp, nI_ltI, nI_leI, nI_eq, nI_1, nI_add, nI_sub, nI_addm, nI_mul, vp_in_n, xi_pi, xi_pl, xl_pi, xl_pl, xb_pi, xb_pl, xqi_i, xql_l, xqv_v, xqi_e, xql_e, xqv_e, forall_eq, true_and, and_true, bI_and, bI_or]
    refine hs (a.1 && sSa B kn on (bar B (bfi B t)) (bar B i), a.2 || sOt (kn (bar B (bfi B t))) (kn (bar B i)) (on (bar B (bfi B t))) (on (bar B i))) ⟨by omega, ?_⟩
    rw [show i + 1 - bfi B t - 1 = i - bfi B t - 1 + 1 by omega, h2]
    simp only [eqK, ← hS, ← hO, show bfi B t + (i - bfi B t - 1 + 1) = i by omega]
def dsR (s o : Nat → Bool) (p : Bool × Bool) : Nat → Bool × Bool
  | 0 => p
  | j + 1 => ((dsR s o p j).1 || s j, (dsR s o p j).2 && o j)
def dsK (s o : Nat → Nat → Bool) : Nat → Bool × Bool
  | 0 => (false, true)
  | i + 1 => dsR (s (i + 1)) (o (i + 1)) (dsK s o i) (i + 1)
theorem c_distinct (h : RC B σ) (w : wfB B) (ht : t < bma B) (hn : 1 ≤ bfi B (t + 1) - bfi B t) (hk : wth B σ 45 kn t) (ho : wth B σ 46 on t)
    (q : ∀ r, r = dsK (fun i j => sSa B kn on (bar B (bfi B t + i)) (bar B (bfi B t + j))) (fun i j => sOt (kn (bar B (bfi B t + i))) (kn (bar B (bfi B t + j))) (on (bar B (bfi B t + i))) (on (bar B (bfi B t + j)))) (bfi B (t + 1) - bfi B t - 1) →
      ∀ σ', lrnd σ t (if r.2 || r.1 then 1#64 else 0#64) (if r.2 then 1#64 else 0#64) σ' → Q (.inl none) σ') : wp_Checker_workOutDistinct Q σ (nI t) := by
  have hm := wf_ma w
  obtain ⟨f1, f2, f3⟩ := wf_fi w ht
  generalize hS : (fun i j => sSa B kn on (bar B (bfi B t + i)) (bar B (bfi B t + j))) = S at q
  generalize hO : (fun i j => sOt (kn (bar B (bfi B t + i))) (kn (bar B (bfi B t + j))) (on (bar B (bfi B t + i))) (on (bar B (bfi B t + j)))) = O at q
  have key := loop_i (σ := Bool × Bool) (fun n i a => w_Checker_workOutDistinct_17 Q n (nI t) (bI a.1) (bI a.2) (nI i) σ) (fun i a => bfi B t + 1 ≤ i ∧ a = dsK S O (i - bfi B t - 1)) (bfi B (t + 1)) (fun n a hI => ?_) (fun n i a hi hI hs => ?_)
  · unfold wp_Checker_workOutDistinct
    simp (disch := omega) only [i32_lit, l64_lit, lc_eq, lc_ge, lc_le, lc_gt, lc_lt, jL_inj, jL_add, jL_sub, jL_mul, jL_neg, jL_and, jL_or, jL_xor, jL_mone, BitVec.xor_allOnes, nI_clamp, nI_ltI, nI_leI, nI_eq, nI_1, nI_add, nI_sub, nI_addm, nI_mul, vp_in_n, xi_pi, xi_pl, xl_pi, xl_pl, xb_pi, xb_pl, xqi_i, xql_l, xqv_v, xqi_e, xql_e, xqv_e, forall_eq, true_and, and_true, rc_fi h]
    exact ⟨_, key (bfi B (t + 1) - bfi B t) (bfi B t + 1) (false, true) (by omega) (by omega) ⟨by omega, by rw [show bfi B t + 1 - bfi B t - 1 = 0 by omega]; rfl⟩⟩
  · unfold w_Checker_workOutDistinct_17
    simp (disch := omega) only [i32_lit, l64_lit, lc_eq, lc_ge, lc_le, lc_gt, lc_lt, jL_inj, jL_add, jL_sub, jL_mul, jL_neg, jL_and, jL_or, jL_xor, jL_mone, BitVec.xor_allOnes, nI_clamp, nI_ltI, nI_leI, nI_eq, nI_1, nI_add, nI_sub, nI_addm, nI_mul, vp_in_n, xi_pi, xi_pl, xl_pi, xl_pl, xb_pi, xb_pl, xqi_i, xql_l, xqv_v, xqi_e, xql_e, xqv_e, forall_eq, true_and, and_true, rc_fi h]
    exact ⟨fun _ => c_either (by omega) (q a hI.2), fun z => absurd (Nat.le_refl _) z⟩
  · unfold w_Checker_workOutDistinct_17
    obtain ⟨h1, h2⟩ := hI
    have ai := wf_ar w ht (i := i) (by omega) hi
    have key2 := loop_i (σ := Bool × Bool) (fun m j b => w_Checker_workOutDistinct_44 Q (w_Checker_workOutDistinct_17 Q n) m (nI t) (bI b.1) (bI b.2) (nI i) (nI j) σ) (fun j b => bfi B t ≤ j ∧ b = dsR (S (i - bfi B t)) (O (i - bfi B t)) a (j - bfi B t)) i (fun m b hJ => ?_) (fun m j b hj hJ hs2 => ?_)
    · simp (disch := omega) only [i32_lit, l64_lit, lc_eq, lc_ge, lc_le, lc_gt, lc_lt, jL_inj, jL_add, jL_sub, jL_mul, jL_neg, jL_and, jL_or, jL_xor, jL_mone, BitVec.xor_allOnes, nI_clamp, nI_ltI, nI_leI, nI_eq, nI_1, nI_add, nI_sub, nI_addm, nI_mul, vp_in_n, xi_pi, xi_pl, xl_pi, xl_pl, xb_pi, xb_pl, xqi_i, xql_l, xqv_v, xqi_e, xql_e, xqv_e, forall_eq, true_and, and_true, rc_fi h]
      exact ⟨fun z => absurd z (by omega), fun _ => ⟨_, key2 (i - bfi B t + 1) (bfi B t) a (by omega) (by omega) ⟨by omega, by rw [Nat.sub_self]; rfl⟩⟩⟩
    · unfold w_Checker_workOutDistinct_44
      simp (disch := omega) only [i32_lit, l64_lit, lc_eq, lc_ge, lc_le, lc_gt, lc_lt, jL_inj, jL_add, jL_sub, jL_mul, jL_neg, jL_and, jL_or, jL_xor, jL_mone, BitVec.xor_allOnes, nI_clamp, nI_ltI, nI_leI, nI_eq, nI_1, nI_add, nI_sub, nI_addm, nI_mul, vp_in_n, xi_pi, xi_pl, xl_pi, xl_pl, xb_pi, xb_pl, xqi_i, xql_l, xqv_v, xqi_e, xql_e, xqv_e, forall_eq, true_and, and_true]
      refine ⟨fun _ => hs b ⟨by omega, ?_⟩, fun z => absurd (Nat.le_refl _) z⟩
      rw [hJ.2, h2, show i + 1 - bfi B t - 1 = i - bfi B t - 1 + 1 by omega]
      simp only [dsK, show i - bfi B t - 1 + 1 = i - bfi B t by omega]
    · unfold w_Checker_workOutDistinct_44
      obtain ⟨g1, g2⟩ := hJ
      have aj := wf_ar w ht (i := j) g1 (by omega)
      simp (disch := omega) only [i32_lit, l64_lit, lc_eq, lc_ge, lc_le, lc_gt, lc_lt, jL_inj, jL_add, jL_sub, jL_mul, jL_neg, jL_and, jL_or, jL_xor, jL_mone, BitVec.xor_allOnes, nI_clamp, nI_ltI, nI_leI, nI_eq, nI_1, nI_add, nI_sub, nI_addm, nI_mul, vp_in_n, xi_pi, xi_pl, xl_pi, xl_pl, xb_pi, xb_pl, xqi_i, xql_l, xqv_v, xqi_e, xql_e, xqv_e, forall_eq, true_and, and_true, rc_ar h]
      refine ⟨fun z => absurd z (by omega), fun _ => ?_⟩
      refine c_isSame (kn := kn) (on := on) h w (by omega) (by omega) (hk _ (by omega) hi) (hk _ g1 (by omega)) (ho _ (by omega) hi) (ho _ g1 (by omega)) ?_
      simp (disch := omega) only [i32_lit, l64_lit, lc_eq, lc_ge, lc_le, lc_gt, lc_lt, jL_inj, jL_add, jL_sub, jL_mul, jL_neg, jL_and, jL_or, jL_xor, jL_mone, BitVec.xor_allOnes, nI_clamp, nI_ltI, nI_leI, nI_eq, nI_1, nI_add, nI_sub, nI_addm, nI_mul, vp_in_n, xi_pi, xi_pl, xl_pi, xl_pl, xb_pi, xb_pl, xqi_i, xql_l, xqv_v, xqi_e, xql_e, xqv_e, forall_eq, true_and, and_true, rc_ar h]
      refine c_isOther (kn := kn) (on := on) h w (by omega) (by omega) (hk _ (by omega) hi) (hk _ g1 (by omega)) (ho _ (by omega) hi) (ho _ g1 (by omega)) ?_
      simp (disch := omega) only [i32_lit, l64_lit, lc_eq, lc_ge, lc_le, lc_gt, lc_lt, jL_inj, jL_add, jL_sub, jL_mul, jL_neg, jL_and, jL_or, jL_xor, jL_mone, BitVec.xor_allOnes, nI_clamp, nI_ltI, nI_leI, nI_eq, nI_1, nI_add, nI_sub, nI_addm, nI_mul, vp_in_n, xi_pi, xi_pl, xl_pi, xl_pl, xb_pi, xb_pl, xqi_i, xql_l, xqv_v, xqi_e, xql_e, xqv_e, forall_eq, true_and, and_true, bI_and, bI_or]
      refine hs2 (b.1 || sSa B kn on (bar B i) (bar B j), b.2 && sOt (kn (bar B i)) (kn (bar B j)) (on (bar B i)) (on (bar B j))) ⟨by omega, ?_⟩
      rw [show j + 1 - bfi B t = j - bfi B t + 1 by omega, g2]
      simp only [dsR, ← hS, ← hO, show bfi B t + (j - bfi B t) = j by omega, show bfi B t + (i - bfi B t) = i by omega]
end CHK2
