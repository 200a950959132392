/-! THE CHECKER: what it knows of a term from what it knows of the arguments -/
def andK (f : BitVec 64) (k o : Nat → BitVec 64) : Nat → BitVec 64 × BitVec 64
  | 0 => (f, 0#64)
  | n + 1 => ((andK f k o n).1 &&& o n, (andK f k o n).2 ||| (k n &&& ~~~ o n))
def xorK (f : BitVec 64) (k o : Nat → BitVec 64) : Nat → BitVec 64 × BitVec 64
  | 0 => (f, 0#64)
  | n + 1 => ((xorK f k o n).1 &&& k n, (xorK f k o n).2 ^^^ o n)
/-- tn n: what turns argument n -/
def orK (f : BitVec 64) (k o tn : Nat → BitVec 64) : Nat → BitVec 64 × BitVec 64
  | 0 => (0#64, f)
  | n + 1 => ((orK f k o tn n).1 ||| (o n ^^^ tn n), (orK f k o tn n).2 &&& (k n &&& ~~~ (o n ^^^ tn n)))
def sumK (f : BitVec 64) (k o : Nat → BitVec 64) : Nat → BitVec 64 × BitVec 64
  | 0 => (f, 0#64)
  | n + 1 => ((sumK f k o n).1 &&& lrun (k n), (sumK f k o n).2 + o n)
def catK (k o : Nat → BitVec 64) (w : Nat → Nat) : Nat → BitVec 64 × BitVec 64
  | 0 => (0#64, 0#64)
  | n + 1 => (((catK k o w n).1 <<< w n) ||| k n, ((catK k o w n).2 <<< w n) ||| o n)
section CHK
variable {Q : xO → xS → Prop} {σ : xS} {B : Bk} {kn on : Nat → BitVec 64} {t : Nat}
/-- what is learned of t: known k, ones o -/
def lrnd (σ : xS) (t : Nat) (k o : BitVec 64) (σ' : xS) : Prop := (∀ a b, xi σ' a b = xi σ a b) ∧ (∀ a b, (a ≠ 45 ∧ a ≠ 46 ∨ b ≠ t) → xl σ' a b = xl σ a b) ∧ xb σ' = xb σ ∧ xl σ' 45 t = jL k ∧ xl σ' 46 t = jL (o &&& k)
theorem c_learn {k o : BitVec 64} (ht : t < 2000) (q : ∀ σ', lrnd σ t k o σ' → Q (.inl none) σ') : wp_Checker_learn Q σ (nI t) (jL k) (jL o) := by
  unfold wp_Checker_learn
  simp (disch := omega) only [i32_lit, l64_lit, lc_eq, lc_ge, lc_le, lc_gt, lc_lt, jL_inj, jL_add, jL_sub, jL_mul, jL_neg, jL_and, jL_or, jL_xor, jL_mone, BitVec.xor_allOnes, nI_clamp, nI_ltI, nI_leI, nI_eq, nI_1, nI_add, nI_sub, nI_addm, nI_mul, vp_in_n, xi_pi, xi_pl, xl_pi, xl_pl, xb_pi, xb_pl, xqi_i, xql_l, xqv_v, xqi_e, xql_e, xqv_e, forall_eq, true_and, and_true]
  refine q _ ⟨fun _ _ => rfl, fun a b h => ?_, rfl, ?_, ?_⟩
  · rw [xl_pl, if_neg (by omega), xl_pl, if_neg (by omega)]
  · rw [xl_pl, if_neg (by omega), xl_pl, if_pos ⟨rfl, rfl⟩]
  · rw [xl_pl, if_pos ⟨rfl, rfl⟩]
theorem c_and (h : RC B σ) (w : wfB B) (ht : t < bma B) (hk : wth B σ 45 kn t) (ho : wth B σ 46 on t)
    (q : ∀ r, r = andK (bful B t) (fun i => kn (bar B (bfi B t + i))) (fun i => on (bar B (bfi B t + i))) (bfi B (t + 1) - bfi B t) → ∀ σ', lrnd σ t (r.1 ||| r.2) r.1 σ' → Q (.inl none) σ') : wp_Checker_workOutAnd Q σ (nI t) := by
  have hm := wf_ma w
  obtain ⟨f1, f2, f3⟩ := wf_fi w ht
  have key := loop_i (σ := BitVec 64 × BitVec 64) (fun n i a => w_Checker_workOutAnd_24 Q n (nI t) (jL a.1) (jL a.2) (nI i) σ) (fun i a => bfi B t ≤ i ∧ a = andK (bful B t) (fun i => kn (bar B (bfi B t + i))) (fun i => on (bar B (bfi B t + i))) (i - bfi B t)) (bfi B (t + 1)) (fun n a hI => ?_) (fun n i a hi hI hs => ?_)
  · unfold wp_Checker_workOutAnd
    simp (disch := omega) only [i32_lit, l64_lit, lc_eq, lc_ge, lc_le, lc_gt, lc_lt, jL_inj, jL_add, jL_sub, jL_mul, jL_neg, jL_and, jL_or, jL_xor, jL_mone, BitVec.xor_allOnes, nI_clamp, nI_ltI, nI_leI, nI_eq, nI_1, nI_add, nI_sub, nI_addm, nI_mul, vp_in_n, xi_pi, xi_pl, xl_pi, xl_pl, xb_pi, xb_pl, xqi_i, xql_l, xqv_v, xqi_e, xql_e, xqv_e, forall_eq, true_and, and_true, rc_fi h, rc_fu h]
    exact ⟨_, key (bfi B (t + 1) - bfi B t + 1) (bfi B t) (bful B t, 0#64) (by omega) (by omega) ⟨by omega, by rw [Nat.sub_self]; rfl⟩⟩
  · unfold w_Checker_workOutAnd_24
    simp (disch := omega) only [i32_lit, l64_lit, lc_eq, lc_ge, lc_le, lc_gt, lc_lt, jL_inj, jL_add, jL_sub, jL_mul, jL_neg, jL_and, jL_or, jL_xor, jL_mone, BitVec.xor_allOnes, nI_clamp, nI_ltI, nI_leI, nI_eq, nI_1, nI_add, nI_sub, nI_addm, nI_mul, vp_in_n, xi_pi, xi_pl, xl_pi, xl_pl, xb_pi, xb_pl, xqi_i, xql_l, xqv_v, xqi_e, xql_e, xqv_e, forall_eq, true_and, and_true, rc_fi h]
    exact ⟨fun _ => c_learn (by omega) (q a hI.2), fun z => absurd (Nat.le_refl _) z⟩
  · unfold w_Checker_workOutAnd_24
    obtain ⟨h1, h2⟩ := hI
    simp (disch := omega) only [i32_lit, l64_lit, lc_eq, lc_ge, lc_le, lc_gt, lc_lt, jL_inj, jL_add, jL_sub, jL_mul, jL_neg, jL_and, jL_or, jL_xor, jL_mone, BitVec.xor_allOnes, nI_clamp, nI_ltI, nI_leI, nI_eq, nI_1, nI_add, nI_sub, nI_addm, nI_mul, vp_in_n, xi_pi, xi_pl, xl_pi, xl_pl, xb_pi, xb_pl, xqi_i, xql_l, xqv_v, xqi_e, xql_e, xqv_e, forall_eq, true_and, and_true, rc_fi h, rc_ar h, ar_cl w ht, ar_in w ht, hk _, ho _]
    refine ⟨fun z => absurd z (by omega), fun _ => hs (a.1 &&& on (bar B i), a.2 ||| (kn (bar B i) &&& ~~~ on (bar B i))) ⟨by omega, ?_⟩⟩
    rw [show i + 1 - bfi B t = i - bfi B t + 1 by omega, h2]
    show _ = (_ &&& on (bar B (bfi B t + (i - bfi B t))), _ ||| (kn (bar B (bfi B t + (i - bfi B t))) &&& ~~~ on (bar B (bfi B t + (i - bfi B t)))))
    rw [show bfi B t + (i - bfi B t) = i by omega]
theorem c_xor (h : RC B σ) (w : wfB B) (ht : t < bma B) (hk : wth B σ 45 kn t) (ho : wth B σ 46 on t)
    (q : ∀ r, r = xorK (bful B t) (fun i => kn (bar B (bfi B t + i))) (fun i => on (bar B (bfi B t + i))) (bfi B (t + 1) - bfi B t) → ∀ σ', lrnd σ t r.1 r.2 σ' → Q (.inl none) σ') : wp_Checker_workOutXor Q σ (nI t) := by
  have hm := wf_ma w
  obtain ⟨f1, f2, f3⟩ := wf_fi w ht
  have key := loop_i (σ := BitVec 64 × BitVec 64) (fun n i a => w_Checker_workOutXor_24 Q n (nI t) (jL a.1) (jL a.2) (nI i) σ) (fun i a => bfi B t ≤ i ∧ a = xorK (bful B t) (fun i => kn (bar B (bfi B t + i))) (fun i => on (bar B (bfi B t + i))) (i - bfi B t)) (bfi B (t + 1)) (fun n a hI => ?_) (fun n i a hi hI hs => ?_)
  · unfold wp_Checker_workOutXor
    simp (disch := omega) only [i32_lit, l64_lit, lc_eq, lc_ge, lc_le, lc_gt, lc_lt, jL_inj, jL_add, jL_sub, jL_mul, jL_neg, jL_and, jL_or, jL_xor, jL_mone, BitVec.xor_allOnes, nI_clamp, nI_ltI, nI_leI, nI_eq, nI_1, nI_add, nI_sub, nI_addm, nI_mul, vp_in_n, xi_pi, xi_pl, xl_pi, xl_pl, xb_pi, xb_pl, xqi_i, xql_l, xqv_v, xqi_e, xql_e, xqv_e, forall_eq, true_and, and_true, rc_fi h, rc_fu h]
    exact ⟨_, key (bfi B (t + 1) - bfi B t + 1) (bfi B t) (bful B t, 0#64) (by omega) (by omega) ⟨by omega, by rw [Nat.sub_self]; rfl⟩⟩
  · unfold w_Checker_workOutXor_24
    simp (disch := omega) only [i32_lit, l64_lit, lc_eq, lc_ge, lc_le, lc_gt, lc_lt, jL_inj, jL_add, jL_sub, jL_mul, jL_neg, jL_and, jL_or, jL_xor, jL_mone, BitVec.xor_allOnes, nI_clamp, nI_ltI, nI_leI, nI_eq, nI_1, nI_add, nI_sub, nI_addm, nI_mul, vp_in_n, xi_pi, xi_pl, xl_pi, xl_pl, xb_pi, xb_pl, xqi_i, xql_l, xqv_v, xqi_e, xql_e, xqv_e, forall_eq, true_and, and_true, rc_fi h]
    exact ⟨fun _ => c_learn (by omega) (q a hI.2), fun z => absurd (Nat.le_refl _) z⟩
  · unfold w_Checker_workOutXor_24
    obtain ⟨h1, h2⟩ := hI
    simp (disch := omega) only [i32_lit, l64_lit, lc_eq, lc_ge, lc_le, lc_gt, lc_lt, jL_inj, jL_add, jL_sub, jL_mul, jL_neg, jL_and, jL_or, jL_xor, jL_mone, BitVec.xor_allOnes, nI_clamp, nI_ltI, nI_leI, nI_eq, nI_1, nI_add, nI_sub, nI_addm, nI_mul, vp_in_n, xi_pi, xi_pl, xl_pi, xl_pl, xb_pi, xb_pl, xqi_i, xql_l, xqv_v, xqi_e, xql_e, xqv_e, forall_eq, true_and, and_true, rc_fi h, rc_ar h, ar_cl w ht, ar_in w ht, hk _, ho _]
    refine ⟨fun z => absurd z (by omega), fun _ => hs (a.1 &&& kn (bar B i), a.2 ^^^ on (bar B i)) ⟨by omega, ?_⟩⟩
    rw [show i + 1 - bfi B t = i - bfi B t + 1 by omega, h2]
    show _ = (_ &&& kn (bar B (bfi B t + (i - bfi B t))), _ ^^^ on (bar B (bfi B t + (i - bfi B t))))
    rw [show bfi B t + (i - bfi B t) = i by omega]
theorem c_sum (h : RC B σ) (w : wfB B) (ht : t < bma B) (hk : wth B σ 45 kn t) (ho : wth B σ 46 on t)
    (q : ∀ r, r = sumK (bful B t) (fun i => kn (bar B (bfi B t + i))) (fun i => on (bar B (bfi B t + i))) (bfi B (t + 1) - bfi B t) → ∀ σ', lrnd σ t r.1 r.2 σ' → Q (.inl none) σ') : wp_Checker_workOutSum Q σ (nI t) := by
  have hm := wf_ma w
  obtain ⟨f1, f2, f3⟩ := wf_fi w ht
  have key := loop_i (σ := BitVec 64 × BitVec 64) (fun n i a => w_Checker_workOutSum_24 Q n (nI t) (jL a.1) (jL a.2) (nI i) σ) (fun i a => bfi B t ≤ i ∧ a = sumK (bful B t) (fun i => kn (bar B (bfi B t + i))) (fun i => on (bar B (bfi B t + i))) (i - bfi B t)) (bfi B (t + 1)) (fun n a hI => ?_) (fun n i a hi hI hs => ?_)
  · unfold wp_Checker_workOutSum
    simp (disch := omega) only [i32_lit, l64_lit, lc_eq, lc_ge, lc_le, lc_gt, lc_lt, jL_inj, jL_add, jL_sub, jL_mul, jL_neg, jL_and, jL_or, jL_xor, jL_mone, BitVec.xor_allOnes, nI_clamp, nI_ltI, nI_leI, nI_eq, nI_1, nI_add, nI_sub, nI_addm, nI_mul, vp_in_n, xi_pi, xi_pl, xl_pi, xl_pl, xb_pi, xb_pl, xqi_i, xql_l, xqv_v, xqi_e, xql_e, xqv_e, forall_eq, true_and, and_true, rc_fi h, rc_fu h]
    exact ⟨_, key (bfi B (t + 1) - bfi B t + 1) (bfi B t) (bful B t, 0#64) (by omega) (by omega) ⟨by omega, by rw [Nat.sub_self]; rfl⟩⟩
  · unfold w_Checker_workOutSum_24
    simp (disch := omega) only [i32_lit, l64_lit, lc_eq, lc_ge, lc_le, lc_gt, lc_lt, jL_inj, jL_add, jL_sub, jL_mul, jL_neg, jL_and, jL_or, jL_xor, jL_mone, BitVec.xor_allOnes, nI_clamp, nI_ltI, nI_leI, nI_eq, nI_1, nI_add, nI_sub, nI_addm, nI_mul, vp_in_n, xi_pi, xi_pl, xl_pi, xl_pl, xb_pi, xb_pl, xqi_i, xql_l, xqv_v, xqi_e, xql_e, xqv_e, forall_eq, true_and, and_true, rc_fi h]
    exact ⟨fun _ => c_learn (by omega) (q a hI.2), fun z => absurd (Nat.le_refl _) z⟩
  · unfold w_Checker_workOutSum_24
    obtain ⟨h1, h2⟩ := hI
    simp (disch := omega) only [i32_lit, l64_lit, lc_eq, lc_ge, lc_le, lc_gt, lc_lt, jL_inj, jL_add, jL_sub, jL_mul, jL_neg, jL_and, jL_or, jL_xor, jL_mone, BitVec.xor_allOnes, nI_clamp, nI_ltI, nI_leI, nI_eq, nI_1, nI_add, nI_sub, nI_addm, nI_mul, vp_in_n, xi_pi, xi_pl, xl_pi, xl_pl, xb_pi, xb_pl, xqi_i, xql_l, xqv_v, xqi_e, xql_e, xqv_e, forall_eq, true_and, and_true, rc_fi h, rc_ar h, ar_cl w ht, ar_in w ht, hk _, ho _]
    refine ⟨fun z => absurd z (by omega), fun _ => p_lowestRun ?_⟩
    simp (disch := omega) only [i32_lit, l64_lit, lc_eq, lc_ge, lc_le, lc_gt, lc_lt, jL_inj, jL_add, jL_sub, jL_mul, jL_neg, jL_and, jL_or, jL_xor, jL_mone, BitVec.xor_allOnes, nI_clamp, nI_ltI, nI_leI, nI_eq, nI_1, nI_add, nI_sub, nI_addm, nI_mul, vp_in_n, xi_pi, xi_pl, xl_pi, xl_pl, xb_pi, xb_pl, xqi_i, xql_l, xqv_v, xqi_e, xql_e, xqv_e, forall_eq, true_and, and_true, rc_fi h, rc_ar h, ar_cl w ht, ar_in w ht, hk _, ho _]
    refine hs (a.1 &&& lrun (kn (bar B i)), a.2 + on (bar B i)) ⟨by omega, ?_⟩
    rw [show i + 1 - bfi B t = i - bfi B t + 1 by omega, h2]
    show _ = (_ &&& lrun (kn (bar B (bfi B t + (i - bfi B t)))), _ + on (bar B (bfi B t + (i - bfi B t))))
    rw [show bfi B t + (i - bfi B t) = i by omega]
theorem c_concat (h : RC B σ) (w : wfB B) (ht : t < bma B) (hw : ∀ i, i < bfi B (t + 1) - bfi B t → bso B (bar B (bfi B t + i)) ≤ 63) (hk : wth B σ 45 kn t) (ho : wth B σ 46 on t)
    (q : ∀ r, r = catK (fun i => kn (bar B (bfi B t + i))) (fun i => on (bar B (bfi B t + i))) (fun i => bso B (bar B (bfi B t + i))) (bfi B (t + 1) - bfi B t) → ∀ σ', lrnd σ t r.1 r.2 σ' → Q (.inl none) σ') : wp_Checker_workOutConcat Q σ (nI t) := by
  have hm := wf_ma w
  obtain ⟨f1, f2, f3⟩ := wf_fi w ht
  have key := loop_i (σ := BitVec 64 × BitVec 64) (fun n i a => w_Checker_workOutConcat_16 Q n (nI t) (jL a.1) (jL a.2) (nI i) σ) (fun i a => bfi B t ≤ i ∧ a = catK (fun i => kn (bar B (bfi B t + i))) (fun i => on (bar B (bfi B t + i))) (fun i => bso B (bar B (bfi B t + i))) (i - bfi B t)) (bfi B (t + 1)) (fun n a hI => ?_) (fun n i a hi hI hs => ?_)
  · unfold wp_Checker_workOutConcat
    simp (disch := omega) only [i32_lit, l64_lit, lc_eq, lc_ge, lc_le, lc_gt, lc_lt, jL_inj, jL_add, jL_sub, jL_mul, jL_neg, jL_and, jL_or, jL_xor, jL_mone, BitVec.xor_allOnes, nI_clamp, nI_ltI, nI_leI, nI_eq, nI_1, nI_add, nI_sub, nI_addm, nI_mul, vp_in_n, xi_pi, xi_pl, xl_pi, xl_pl, xb_pi, xb_pl, xqi_i, xql_l, xqv_v, xqi_e, xql_e, xqv_e, forall_eq, true_and, and_true, rc_fi h]
    exact ⟨_, key (bfi B (t + 1) - bfi B t + 1) (bfi B t) (0#64, 0#64) (by omega) (by omega) ⟨by omega, by rw [Nat.sub_self]; rfl⟩⟩
  · unfold w_Checker_workOutConcat_16
    simp (disch := omega) only [i32_lit, l64_lit, lc_eq, lc_ge, lc_le, lc_gt, lc_lt, jL_inj, jL_add, jL_sub, jL_mul, jL_neg, jL_and, jL_or, jL_xor, jL_mone, BitVec.xor_allOnes, nI_clamp, nI_ltI, nI_leI, nI_eq, nI_1, nI_add, nI_sub, nI_addm, nI_mul, vp_in_n, xi_pi, xi_pl, xl_pi, xl_pl, xb_pi, xb_pl, xqi_i, xql_l, xqv_v, xqi_e, xql_e, xqv_e, forall_eq, true_and, and_true, rc_fi h]
    exact ⟨fun _ => c_learn (by omega) (q a hI.2), fun z => absurd (Nat.le_refl _) z⟩
  · unfold w_Checker_workOutConcat_16
    obtain ⟨h1, h2⟩ := hI
    have hwi : bso B (bar B i) < 64 := by
      have := hw (i - bfi B t) (by omega)
      rw [show bfi B t + (i - bfi B t) = i by omega] at this
      omega
    simp (disch := omega) only [i32_lit, l64_lit, lc_eq, lc_ge, lc_le, lc_gt, lc_lt, jL_inj, jL_add, jL_sub, jL_mul, jL_neg, jL_and, jL_or, jL_xor, jL_mone, BitVec.xor_allOnes, nI_clamp, nI_ltI, nI_leI, nI_eq, nI_1, nI_add, nI_sub, nI_addm, nI_mul, vp_in_n, xi_pi, xi_pl, xl_pi, xl_pl, xb_pi, xb_pl, xqi_i, xql_l, xqv_v, xqi_e, xql_e, xqv_e, forall_eq, true_and, and_true, rc_fi h, rc_ar h, ar_cl w ht, ar_in w ht, ar_so w ht h, hk _, ho _, jL_shl _ hwi]
    refine ⟨fun z => absurd z (by omega), fun _ => hs ((a.1 <<< bso B (bar B i)) ||| kn (bar B i), (a.2 <<< bso B (bar B i)) ||| on (bar B i)) ⟨by omega, ?_⟩⟩
    rw [show i + 1 - bfi B t = i - bfi B t + 1 by omega, h2]
    simp only [catK, show bfi B t + (i - bfi B t) = i by omega]
theorem c_isKnown {a : Nat} (h : RC B σ) (w : wfB B) (ha : a < bma B) (hk : xl σ 45 a = jL (kn a)) (k1 : kn a = bful B a → Q (.inl (some (.int 1))) σ) (k0 : ¬ kn a = bful B a → Q (.inl (some (.int 0))) σ) : wp_Checker_isKnown Q σ (nI a) := by
  have hm := wf_ma w
  unfold wp_Checker_isKnown
  simp (disch := omega) only [i32_lit, l64_lit, lc_eq, lc_ge, lc_le, lc_gt, lc_lt, jL_inj, jL_add, jL_sub, jL_mul, jL_neg, jL_and, jL_or, jL_xor, jL_mone, BitVec.xor_allOnes, nI_clamp, nI_ltI, nI_leI, nI_eq, nI_1, nI_add, nI_sub, nI_addm, nI_mul, vp_in_n, xi_pi, xi_pl, xl_pi, xl_pl, xb_pi, xb_pl, xqi_i, xql_l, xqv_v, xqi_e, xql_e, xqv_e, forall_eq, true_and, and_true, hk, rc_fu h]
  exact ⟨k0, k1⟩
theorem c_ite {a b c : Nat} (h : RC B σ) (w : wfB B) (ht : t < bma B) (ha : a < bma B) (hb : b < bma B) (hc : c < bma B) (ka : xl σ 45 a = jL (kn a)) (kb : xl σ 45 b = jL (kn b)) (kc : xl σ 45 c = jL (kn c)) (oa : xl σ 46 a = jL (on a)) (ob : xl σ 46 b = jL (on b)) (oc : xl σ 46 c = jL (on c))
    (q1 : kn a = bful B a → on a = 0#64 → ∀ σ', lrnd σ t (kn c) (on c) σ' → Q (.inl none) σ') (q2 : kn a = bful B a → ¬ on a = 0#64 → ∀ σ', lrnd σ t (kn b) (on b) σ' → Q (.inl none) σ')
    (q3 : ¬ kn a = bful B a → ∀ σ', lrnd σ t (kn b &&& kn c &&& ~~~ (on b ^^^ on c)) (on b) σ' → Q (.inl none) σ') : wp_Checker_workOutIte Q σ (nI t) (nI a) (nI b) (nI c) := by
  have hm := wf_ma w
  unfold wp_Checker_workOutIte
  refine c_isKnown h w ha ka (fun z => ?_) (fun z => ?_)
  · refine ⟨fun y => absurd y (by decide), fun _ => ?_⟩
    simp (disch := omega) only [i32_lit, l64_lit, lc_eq, lc_ge, lc_le, lc_gt, lc_lt, jL_inj, jL_add, jL_sub, jL_mul, jL_neg, jL_and, jL_or, jL_xor, jL_mone, BitVec.xor_allOnes, nI_clamp, nI_ltI, nI_leI, nI_eq, nI_1, nI_add, nI_sub, nI_addm, nI_mul, vp_in_n, xi_pi, xi_pl, xl_pi, xl_pl, xb_pi, xb_pl, xqi_i, xql_l, xqv_v, xqi_e, xql_e, xqv_e, forall_eq, true_and, and_true, oa]
    refine ⟨fun y => ?_, fun y => ?_⟩
    · unfold w_Checker_workOutIte_25
      simp (disch := omega) only [i32_lit, l64_lit, lc_eq, lc_ge, lc_le, lc_gt, lc_lt, jL_inj, jL_add, jL_sub, jL_mul, jL_neg, jL_and, jL_or, jL_xor, jL_mone, BitVec.xor_allOnes, nI_clamp, nI_ltI, nI_leI, nI_eq, nI_1, nI_add, nI_sub, nI_addm, nI_mul, vp_in_n, xi_pi, xi_pl, xl_pi, xl_pl, xb_pi, xb_pl, xqi_i, xql_l, xqv_v, xqi_e, xql_e, xqv_e, forall_eq, true_and, and_true, kc, oc]
      exact c_learn (by omega) (q1 z y)
    · unfold w_Checker_workOutIte_25
      simp (disch := omega) only [i32_lit, l64_lit, lc_eq, lc_ge, lc_le, lc_gt, lc_lt, jL_inj, jL_add, jL_sub, jL_mul, jL_neg, jL_and, jL_or, jL_xor, jL_mone, BitVec.xor_allOnes, nI_clamp, nI_ltI, nI_leI, nI_eq, nI_1, nI_add, nI_sub, nI_addm, nI_mul, vp_in_n, xi_pi, xi_pl, xl_pi, xl_pl, xb_pi, xb_pl, xqi_i, xql_l, xqv_v, xqi_e, xql_e, xqv_e, forall_eq, true_and, and_true, kb, ob]
      exact c_learn (by omega) (q2 z y)
  · refine ⟨fun _ => ?_, fun y => absurd rfl y⟩
    simp (disch := omega) only [i32_lit, l64_lit, lc_eq, lc_ge, lc_le, lc_gt, lc_lt, jL_inj, jL_add, jL_sub, jL_mul, jL_neg, jL_and, jL_or, jL_xor, jL_mone, BitVec.xor_allOnes, nI_clamp, nI_ltI, nI_leI, nI_eq, nI_1, nI_add, nI_sub, nI_addm, nI_mul, vp_in_n, xi_pi, xi_pl, xl_pi, xl_pl, xb_pi, xb_pl, xqi_i, xql_l, xqv_v, xqi_e, xql_e, xqv_e, forall_eq, true_and, and_true, kb, kc, ob, oc]
    exact c_learn (by omega) (q3 z)
/-- a truth as an int -/
def bI (b : Bool) : Int32 := if b then 1 else 0
theorem bI_and (a b : Bool) : bI a &&& bI b = bI (a && b) := by cases a <;> cases b <;> decide
theorem bI_or (a b : Bool) : bI a ||| bI b = bI (a || b) := by cases a <;> cases b <;> decide
theorem bI_0 (b : Bool) : bI b = nI 0 ↔ b = false := by cases b <;> decide
theorem c_either {y n : Bool} (ht : t < 2000) (q : ∀ σ', lrnd σ t (if y || n then 1#64 else 0#64) (if y then 1#64 else 0#64) σ' → Q (.inl none) σ') : wp_Checker_learnEither Q σ (nI t) (bI y) (bI n) := by
  unfold wp_Checker_learnEither w_Checker_learnEither_10 w_Checker_learnEither_15 w_Checker_learnEither_24
  simp (disch := omega) only [i32_lit, l64_lit, lc_eq, lc_ge, lc_le, lc_gt, lc_lt, jL_inj, jL_add, jL_sub, jL_mul, jL_neg, jL_and, jL_or, jL_xor, jL_mone, BitVec.xor_allOnes, nI_clamp, nI_ltI, nI_leI, nI_eq, nI_1, nI_add, nI_sub, nI_addm, nI_mul, vp_in_n, xi_pi, xi_pl, xl_pi, xl_pl, xb_pi, xb_pl, xqi_i, xql_l, xqv_v, xqi_e, xql_e, xqv_e, forall_eq, true_and, and_true, bI_0]
  cases y <;> cases n <;> simp only [Bool.or_false, Bool.or_true, Bool.false_eq_true, if_true, if_false] at q <;> simp <;> exact c_learn ht q
end CHK
