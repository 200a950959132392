/-! the class's evaluator -/
section EVAL
variable {Q : xO → xS → Prop} {σ : xS} {B : Bk} {v : Nat → BitVec 64} {t : Nat}
/-- the arguments' worth stands in the cell c -/
def wth (B : Bk) (σ : xS) (c : Nat) (v : Nat → BitVec 64) (t : Nat) : Prop := ∀ i, bfi B t ≤ i → i < bfi B (t + 1) → xl σ c (bar B i) = jL (v (bar B i))
theorem ar_cl {i : Nat} (w : wfB B) (ht : t < bma B) (h1 : bfi B t ≤ i) (h2 : i < bfi B (t + 1)) : (nI (bar B i)).toNatClampNeg = bar B i := by
  have := wf_ar w ht h1 h2
  have := wf_ma w
  exact nI_clamp (by omega)
theorem ar_in {i : Nat} (w : wfB B) (ht : t < bma B) (h1 : bfi B t ≤ i) (h2 : i < bfi B (t + 1)) : vp_in (nI (bar B i)) 2000 = True := by
  have := wf_ar w ht h1 h2
  have := wf_ma w
  exact vp_in_n (by omega) (by decide)
theorem ar_so {i : Nat} (w : wfB B) (ht : t < bma B) (h : RC B σ) (h1 : bfi B t ≤ i) (h2 : i < bfi B (t + 1)) : xi σ 8 (bar B i) = nI (bso B (bar B i)) := by
  have := wf_ar w ht h1 h2
  exact rc_so h (by omega)
theorem e_folded_40 {op : Nat} (h : RC B σ) (w : wfB B) (ht : t < bma B) (hn : 1 ≤ bfi B (t + 1) - bfi B t) (ho : op < 64) (hv : wth B σ 41 v t)
    (k : Q (.inl (some (.long (jL (foldA (fun i => v (bar B (bfi B t + i))) op (bfi B (t + 1) - bfi B t - 1)))))) σ) : wp_Evaluator_folded_40 Q σ (nI t) (nI op) := by
  have hm := wf_ma w
  obtain ⟨f1, f2, f3⟩ := wf_fi w ht
  unfold wp_Evaluator_folded_40
  simp (disch := omega) only [i32_lit, l64_lit, lc_eq, lc_ge, lc_le, lc_gt, lc_lt, jL_inj, jL_add, jL_sub, jL_mul, jL_neg, jL_and, jL_or, jL_xor, jL_mone, BitVec.xor_allOnes, nI_clamp, nI_ltI, nI_leI, nI_eq, nI_1, nI_add, nI_sub, nI_addm, nI_mul, vp_in_n, xi_pi, xi_pl, xl_pi, xl_pl, xb_pi, xb_pl, xqi_i, xql_l, xqv_v, xqi_e, xql_e, xqv_e, forall_eq, true_and, and_true, rc_fi h, rc_ar h, ar_cl w ht, ar_in w ht, hv _]
  have key := loop_i (σ := BitVec 64) (fun n i a => w_Evaluator_folded_40_36 Q n (nI t) (nI op) (jL a) (nI i) σ) (fun i a => bfi B t + 1 ≤ i ∧ a = foldA (fun i => v (bar B (bfi B t + i))) op (i - bfi B t - 1)) (bfi B (t + 1)) (fun n a hI => ?_) (fun n i a hi hI hs => ?_)
  · exact ⟨_, key (bfi B (t + 1) - bfi B t) (bfi B t + 1) _ (by omega) (by omega) ⟨by omega, by rw [show bfi B t + 1 - bfi B t - 1 = 0 by omega]; rfl⟩⟩
  · unfold w_Evaluator_folded_40_36
    simp (disch := omega) only [i32_lit, l64_lit, lc_eq, lc_ge, lc_le, lc_gt, lc_lt, jL_inj, jL_add, jL_sub, jL_mul, jL_neg, jL_and, jL_or, jL_xor, jL_mone, BitVec.xor_allOnes, nI_clamp, nI_ltI, nI_leI, nI_eq, nI_1, nI_add, nI_sub, nI_addm, nI_mul, vp_in_n, xi_pi, xi_pl, xl_pi, xl_pl, xb_pi, xb_pl, xqi_i, xql_l, xqv_v, xqi_e, xql_e, xqv_e, forall_eq, true_and, and_true, rc_fi h]
    refine ⟨fun _ => ?_, fun z => absurd (Nat.le_refl _) z⟩
    rw [hI.2]
    exact k
  · unfold w_Evaluator_folded_40_36
    obtain ⟨h1, h2⟩ := hI
    have hs2 : ∀ a', a' = fop op a (v (bar B i)) → w_Evaluator_folded_40_36 Q n (nI t) (nI op) (jL a') (nI (i + 1)) σ := by
      intro a' ha'
      refine hs a' ⟨by omega, ?_⟩
      rw [show i + 1 - bfi B t - 1 = i - bfi B t - 1 + 1 by omega, ha', h2]
      show _ = fop op _ (v (bar B (bfi B t + (i - bfi B t - 1 + 1))))
      rw [show bfi B t + (i - bfi B t - 1 + 1) = i by omega]
    simp (disch := omega) only [i32_lit, l64_lit, lc_eq, lc_ge, lc_le, lc_gt, lc_lt, jL_inj, jL_add, jL_sub, jL_mul, jL_neg, jL_and, jL_or, jL_xor, jL_mone, BitVec.xor_allOnes, nI_clamp, nI_ltI, nI_leI, nI_eq, nI_1, nI_add, nI_sub, nI_addm, nI_mul, vp_in_n, xi_pi, xi_pl, xl_pi, xl_pl, xb_pi, xb_pl, xqi_i, xql_l, xqv_v, xqi_e, xql_e, xqv_e, forall_eq, true_and, and_true, rc_fi h, rc_ar h, ar_cl w ht, ar_in w ht, hv _]
    refine ⟨fun z => absurd z (by omega), fun _ => ⟨fun z => hs2 _ ?_, fun z => hs2 _ ?_, fun z => hs2 _ ?_, fun z => hs2 _ ?_, fun z => hs2 _ ?_⟩⟩
    · rw [fop, if_pos z]
    · rw [fop, if_neg (by omega), if_pos z]
    · rw [fop, if_neg (by omega), if_neg (by omega), if_pos z]
    · rw [fop, if_neg (by omega), if_neg (by omega), if_neg (by omega), if_pos z]
    · rw [fop, if_neg (by omega), if_neg (by omega), if_neg (by omega), if_neg (by omega)]
theorem dn_lt {j f : Nat} (hj : j < 2147483648) (hf : f < 2147483648) : (nI j - 1 < nI f) ↔ j ≤ f := by
  rw [Int32.lt_iff_toInt_lt, Int32.toInt_sub, nI_toInt hj, nI_toInt hf]
  have : (1 : Int32).toInt = 1 := by decide
  rw [this, Int.bmod_eq_of_le (by omega) (by omega)]
  omega
theorem e_implication_40 (h : RC B σ) (w : wfB B) (ht : t < bma B) (hn : 2 ≤ bfi B (t + 1) - bfi B t) (hv : wth B σ 41 v t)
    (k : Q (.inl (some (.long (jL (implA (fun i => v (bar B (bfi B t + (bfi B (t + 1) - bfi B t - 1 - i)))) (bfi B (t + 1) - bfi B t - 1)))))) σ) : wp_Evaluator_implication_40 Q σ (nI t) := by
  have hm := wf_ma w
  obtain ⟨f1, f2, f3⟩ := wf_fi w ht
  have key := loop_m (σ := Nat × BitVec 64) (fun n s => w_Evaluator_implication_40_42 Q n (nI t) (jL s.2) (nI s.1 - 1) σ) (fun s => bfi B t ≤ s.1 ∧ s.1 + 1 ≤ bfi B (t + 1) ∧ s.2 = implA (fun i => v (bar B (bfi B t + (bfi B (t + 1) - bfi B t - 1 - i)))) (bfi B (t + 1) - 1 - s.1)) (fun s => s.1) (fun n s hI hs => ?_)
  · unfold wp_Evaluator_implication_40
    simp (disch := omega) only [i32_lit, l64_lit, lc_eq, lc_ge, lc_le, lc_gt, lc_lt, jL_inj, jL_add, jL_sub, jL_mul, jL_neg, jL_and, jL_or, jL_xor, jL_mone, BitVec.xor_allOnes, nI_clamp, nI_ltI, nI_leI, nI_eq, nI_1, nI_add, nI_sub, nI_addm, nI_mul, vp_in_n, xi_pi, xi_pl, xl_pi, xl_pl, xb_pi, xb_pl, xqi_i, xql_l, xqv_v, xqi_e, xql_e, xqv_e, forall_eq, true_and, and_true, rc_fi h, rc_ar h, ar_cl w ht, ar_in w ht, hv _]
    have e2 : nI (bfi B (t + 1) - 2) = nI (bfi B (t + 1) - 1) - 1 := by rw [nI_sub1 (by omega), show bfi B (t + 1) - 1 - 1 = bfi B (t + 1) - 2 by omega]
    rw [e2]
    refine key (bfi B (t + 1) - 1, _) ⟨by show _ ≤ bfi B (t + 1) - 1; omega, by show bfi B (t + 1) - 1 + 1 ≤ _; omega, ?_⟩
    show v (bar B (bfi B (t + 1) - 1)) = implA _ (bfi B (t + 1) - 1 - (bfi B (t + 1) - 1))
    rw [Nat.sub_self]
    show _ = v (bar B (bfi B t + (bfi B (t + 1) - bfi B t - 1 - 0)))
    rw [show bfi B t + (bfi B (t + 1) - bfi B t - 1 - 0) = bfi B (t + 1) - 1 by omega]
  · obtain ⟨j, a⟩ := s
    obtain ⟨h1, h2, h3⟩ := hI
    dsimp only at h1 h2 h3 hs ⊢
    unfold w_Evaluator_implication_40_42
    have e0 : (nI t).toNatClampNeg = t := nI_clamp (by omega)
    rw [e0, rc_fi h (by omega)]
    refine ⟨vp_in_nI (by omega) (by decide), fun z => ?_, fun z => ?_⟩
    · rw [dn_lt (by omega) (by omega)] at z
      have : j = bfi B t := by omega
      subst this
      rw [show bfi B (t + 1) - 1 - bfi B t = bfi B (t + 1) - bfi B t - 1 by omega] at h3
      rw [h3]
      exact k
    · rw [dn_lt (by omega) (by omega)] at z
      simp (disch := omega) only [i32_lit, l64_lit, lc_eq, lc_ge, lc_le, lc_gt, lc_lt, jL_inj, jL_add, jL_sub, jL_mul, jL_neg, jL_and, jL_or, jL_xor, jL_mone, BitVec.xor_allOnes, nI_clamp, nI_ltI, nI_leI, nI_eq, nI_1, nI_add, nI_sub, nI_addm, nI_mul, vp_in_n, xi_pi, xi_pl, xl_pi, xl_pl, xb_pi, xb_pl, xqi_i, xql_l, xqv_v, xqi_e, xql_e, xqv_e, forall_eq, true_and, and_true, rc_ar h, ar_cl w ht, ar_in w ht, hv _]
      rw [show nI (j - 1) + -nI 1 = nI (j - 1) - 1 from (Int32.sub_eq_add_neg _ _).symm]
      refine hs (j - 1, _) ⟨by show _ ≤ j - 1; omega, by show j - 1 + 1 ≤ _; omega, ?_⟩ (by show j - 1 < j; omega)
      show _ = implA _ (bfi B (t + 1) - 1 - (j - 1))
      rw [show bfi B (t + 1) - 1 - (j - 1) = bfi B (t + 1) - 1 - j + 1 by omega, h3]
      show _ = implA _ _ ||| ~~~ v (bar B (bfi B t + (bfi B (t + 1) - bfi B t - 1 - (bfi B (t + 1) - 1 - j + 1))))
      rw [show bfi B t + (bfi B (t + 1) - bfi B t - 1 - (bfi B (t + 1) - 1 - j + 1)) = j - 1 by omega]
theorem e_isAllSame_40 (h : RC B σ) (w : wfB B) (ht : t < bma B) (hn : 1 ≤ bfi B (t + 1) - bfi B t) (hv : wth B σ 41 v t)
    (k1 : (∀ i, i + 1 < bfi B (t + 1) - bfi B t → v (bar B (bfi B t + (i + 1))) = v (bar B (bfi B t + i))) → Q (.inl (some (.int 1))) σ)
    (k0 : ¬ (∀ i, i + 1 < bfi B (t + 1) - bfi B t → v (bar B (bfi B t + (i + 1))) = v (bar B (bfi B t + i))) → Q (.inl (some (.int 0))) σ) : wp_Evaluator_isAllSame_40 Q σ (nI t) := by
  have hm := wf_ma w
  obtain ⟨f1, f2, f3⟩ := wf_fi w ht
  have key := loop_i (σ := Unit) (fun n i _ => w_Evaluator_isAllSame_40_12 Q n (nI t) (nI i) σ) (fun i _ => bfi B t + 1 ≤ i ∧ ∀ j, bfi B t + (j + 1) < i → v (bar B (bfi B t + (j + 1))) = v (bar B (bfi B t + j))) (bfi B (t + 1)) (fun n a hI => ?_) (fun n i a hi hI hs => ?_)
  · unfold wp_Evaluator_isAllSame_40
    simp (disch := omega) only [i32_lit, l64_lit, lc_eq, lc_ge, lc_le, lc_gt, lc_lt, jL_inj, jL_add, jL_sub, jL_mul, jL_neg, jL_and, jL_or, jL_xor, jL_mone, BitVec.xor_allOnes, nI_clamp, nI_ltI, nI_leI, nI_eq, nI_1, nI_add, nI_sub, nI_addm, nI_mul, vp_in_n, xi_pi, xi_pl, xl_pi, xl_pl, xb_pi, xb_pl, xqi_i, xql_l, xqv_v, xqi_e, xql_e, xqv_e, forall_eq, true_and, and_true, rc_fi h]
    exact ⟨_, key (bfi B (t + 1) - bfi B t) (bfi B t + 1) () (by omega) (by omega) ⟨by omega, fun j hj => by omega⟩⟩
  · unfold w_Evaluator_isAllSame_40_12
    simp (disch := omega) only [i32_lit, l64_lit, lc_eq, lc_ge, lc_le, lc_gt, lc_lt, jL_inj, jL_add, jL_sub, jL_mul, jL_neg, jL_and, jL_or, jL_xor, jL_mone, BitVec.xor_allOnes, nI_clamp, nI_ltI, nI_leI, nI_eq, nI_1, nI_add, nI_sub, nI_addm, nI_mul, vp_in_n, xi_pi, xi_pl, xl_pi, xl_pl, xb_pi, xb_pl, xqi_i, xql_l, xqv_v, xqi_e, xql_e, xqv_e, forall_eq, true_and, and_true, rc_fi h]
    exact ⟨fun _ => k1 (fun i hi => hI.2 i (by omega)), fun z => absurd (Nat.le_refl _) z⟩
  · unfold w_Evaluator_isAllSame_40_12
    obtain ⟨h1, h2⟩ := hI
    simp (disch := omega) only [i32_lit, l64_lit, lc_eq, lc_ge, lc_le, lc_gt, lc_lt, jL_inj, jL_add, jL_sub, jL_mul, jL_neg, jL_and, jL_or, jL_xor, jL_mone, BitVec.xor_allOnes, nI_clamp, nI_ltI, nI_leI, nI_eq, nI_1, nI_add, nI_sub, nI_addm, nI_mul, vp_in_n, xi_pi, xi_pl, xl_pi, xl_pl, xb_pi, xb_pl, xqi_i, xql_l, xqv_v, xqi_e, xql_e, xqv_e, forall_eq, true_and, and_true, rc_fi h, rc_ar h, ar_cl w ht, ar_in w ht, hv _]
    refine ⟨fun z => absurd z (by omega), fun _ => ⟨fun z => hs () ⟨by omega, fun j hj => ?_⟩, fun z => k0 (fun q => z ?_)⟩⟩
    · by_cases e : bfi B t + (j + 1) = i
      · rw [e, show bfi B t + j = i - 1 by omega]
        exact z
      · exact h2 j (by omega)
    · have := q (i - 1 - bfi B t) (by omega)
      rw [show bfi B t + (i - 1 - bfi B t + 1) = i by omega, show bfi B t + (i - 1 - bfi B t) = i - 1 by omega] at this
      exact this
theorem e_isAllOther_40 (h : RC B σ) (w : wfB B) (ht : t < bma B) (hn : 1 ≤ bfi B (t + 1) - bfi B t) (hv : wth B σ 41 v t)
    (k1 : (∀ i, i < bfi B (t + 1) - bfi B t → ∀ j, j < i → v (bar B (bfi B t + i)) ≠ v (bar B (bfi B t + j))) → Q (.inl (some (.int 1))) σ)
    (k0 : ¬ (∀ i, i < bfi B (t + 1) - bfi B t → ∀ j, j < i → v (bar B (bfi B t + i)) ≠ v (bar B (bfi B t + j))) → Q (.inl (some (.int 0))) σ) : wp_Evaluator_isAllOther_40 Q σ (nI t) := by
  have hm := wf_ma w
  obtain ⟨f1, f2, f3⟩ := wf_fi w ht
  have key := loop_i (σ := Unit) (fun n i _ => w_Evaluator_isAllOther_40_12 Q n (nI t) (nI i) σ) (fun i _ => bfi B t + 1 ≤ i ∧ ∀ a, bfi B t + a < i → ∀ j, j < a → v (bar B (bfi B t + a)) ≠ v (bar B (bfi B t + j))) (bfi B (t + 1)) (fun n a hI => ?_) (fun n i a hi hI hs => ?_)
  · unfold wp_Evaluator_isAllOther_40
    simp (disch := omega) only [i32_lit, l64_lit, lc_eq, lc_ge, lc_le, lc_gt, lc_lt, jL_inj, jL_add, jL_sub, jL_mul, jL_neg, jL_and, jL_or, jL_xor, jL_mone, BitVec.xor_allOnes, nI_clamp, nI_ltI, nI_leI, nI_eq, nI_1, nI_add, nI_sub, nI_addm, nI_mul, vp_in_n, xi_pi, xi_pl, xl_pi, xl_pl, xb_pi, xb_pl, xqi_i, xql_l, xqv_v, xqi_e, xql_e, xqv_e, forall_eq, true_and, and_true, rc_fi h]
    exact ⟨_, key (bfi B (t + 1) - bfi B t) (bfi B t + 1) () (by omega) (by omega) ⟨by omega, fun j hj => by omega⟩⟩
  · unfold w_Evaluator_isAllOther_40_12
    simp (disch := omega) only [i32_lit, l64_lit, lc_eq, lc_ge, lc_le, lc_gt, lc_lt, jL_inj, jL_add, jL_sub, jL_mul, jL_neg, jL_and, jL_or, jL_xor, jL_mone, BitVec.xor_allOnes, nI_clamp, nI_ltI, nI_leI, nI_eq, nI_1, nI_add, nI_sub, nI_addm, nI_mul, vp_in_n, xi_pi, xi_pl, xl_pi, xl_pl, xb_pi, xb_pl, xqi_i, xql_l, xqv_v, xqi_e, xql_e, xqv_e, forall_eq, true_and, and_true, rc_fi h]
    exact ⟨fun _ => k1 (fun i hi => hI.2 i (by omega)), fun z => absurd (Nat.le_refl _) z⟩
  · unfold w_Evaluator_isAllOther_40_12
    obtain ⟨h1, h2⟩ := hI
    have key2 := loop_i (σ := Unit) (fun m j _ => w_Evaluator_isAllOther_40_37 Q (w_Evaluator_isAllOther_40_12 Q n) m (nI t) (nI i) (nI j) σ) (fun j _ => bfi B t ≤ j ∧ ∀ b, bfi B t + b < j → v (bar B i) ≠ v (bar B (bfi B t + b))) i (fun m a hI => ?_) (fun m j a hj hI hs => ?_)
    · simp (disch := omega) only [i32_lit, l64_lit, lc_eq, lc_ge, lc_le, lc_gt, lc_lt, jL_inj, jL_add, jL_sub, jL_mul, jL_neg, jL_and, jL_or, jL_xor, jL_mone, BitVec.xor_allOnes, nI_clamp, nI_ltI, nI_leI, nI_eq, nI_1, nI_add, nI_sub, nI_addm, nI_mul, vp_in_n, xi_pi, xi_pl, xl_pi, xl_pl, xb_pi, xb_pl, xqi_i, xql_l, xqv_v, xqi_e, xql_e, xqv_e, forall_eq, true_and, and_true, rc_fi h]
      exact ⟨fun z => absurd z (by omega), fun _ => ⟨_, key2 (i - bfi B t + 1) (bfi B t) () (by omega) (by omega) ⟨by omega, fun b hb => by omega⟩⟩⟩
    · unfold w_Evaluator_isAllOther_40_37
      simp (disch := omega) only [i32_lit, l64_lit, lc_eq, lc_ge, lc_le, lc_gt, lc_lt, jL_inj, jL_add, jL_sub, jL_mul, jL_neg, jL_and, jL_or, jL_xor, jL_mone, BitVec.xor_allOnes, nI_clamp, nI_ltI, nI_leI, nI_eq, nI_1, nI_add, nI_sub, nI_addm, nI_mul, vp_in_n, xi_pi, xi_pl, xl_pi, xl_pl, xb_pi, xb_pl, xqi_i, xql_l, xqv_v, xqi_e, xql_e, xqv_e, forall_eq, true_and, and_true]
      refine ⟨fun _ => hs () ⟨by omega, fun b hb j hj => ?_⟩, fun z => absurd (Nat.le_refl _) z⟩
      by_cases e : bfi B t + b = i
      · rw [e]
        exact hI.2 j (by omega)
      · exact h2 b (by omega) j hj
    · unfold w_Evaluator_isAllOther_40_37
      obtain ⟨g1, g2⟩ := hI
      simp (disch := omega) only [i32_lit, l64_lit, lc_eq, lc_ge, lc_le, lc_gt, lc_lt, jL_inj, jL_add, jL_sub, jL_mul, jL_neg, jL_and, jL_or, jL_xor, jL_mone, BitVec.xor_allOnes, nI_clamp, nI_ltI, nI_leI, nI_eq, nI_1, nI_add, nI_sub, nI_addm, nI_mul, vp_in_n, xi_pi, xi_pl, xl_pi, xl_pl, xb_pi, xb_pl, xqi_i, xql_l, xqv_v, xqi_e, xql_e, xqv_e, forall_eq, true_and, and_true, rc_fi h, rc_ar h, ar_cl w ht, ar_in w ht, hv _]
      refine ⟨fun z => absurd z (by omega), fun _ => ⟨fun z => hs () ⟨by omega, fun b hb => ?_⟩, fun z => k0 (fun q => ?_)⟩⟩
      · by_cases e : bfi B t + b = j
        · rw [e]; exact z
        · exact g2 b (by omega)
      · have := q (i - bfi B t) (by omega) (j - bfi B t) (by omega)
        rw [show bfi B t + (i - bfi B t) = i by omega, show bfi B t + (j - bfi B t) = j by omega] at this
        exact this z
theorem e_concat_40 (h : RC B σ) (w : wfB B) (ht : t < bma B) (hw : ∀ i, i < bfi B (t + 1) - bfi B t → bso B (bar B (bfi B t + i)) ≤ 63) (hv : wth B σ 41 v t)
    (k : Q (.inl (some (.long (jL (catA (fun i => v (bar B (bfi B t + i))) (fun i => bso B (bar B (bfi B t + i))) (bfi B (t + 1) - bfi B t)))))) σ) : wp_Evaluator_concat_40 Q σ (nI t) := by
  have hm := wf_ma w
  obtain ⟨f1, f2, f3⟩ := wf_fi w ht
  have key := loop_i (σ := BitVec 64) (fun n i a => w_Evaluator_concat_40_13 Q n (nI t) (jL a) (nI i) σ) (fun i a => bfi B t ≤ i ∧ a = catA (fun i => v (bar B (bfi B t + i))) (fun i => bso B (bar B (bfi B t + i))) (i - bfi B t)) (bfi B (t + 1)) (fun n a hI => ?_) (fun n i a hi hI hs => ?_)
  · unfold wp_Evaluator_concat_40
    rw [jL_0]
    simp (disch := omega) only [i32_lit, l64_lit, lc_eq, lc_ge, lc_le, lc_gt, lc_lt, jL_inj, jL_add, jL_sub, jL_mul, jL_neg, jL_and, jL_or, jL_xor, jL_mone, BitVec.xor_allOnes, nI_clamp, nI_ltI, nI_leI, nI_eq, nI_1, nI_add, nI_sub, nI_addm, nI_mul, vp_in_n, xi_pi, xi_pl, xl_pi, xl_pl, xb_pi, xb_pl, xqi_i, xql_l, xqv_v, xqi_e, xql_e, xqv_e, forall_eq, true_and, and_true, rc_fi h]
    exact ⟨_, key (bfi B (t + 1) - bfi B t + 1) (bfi B t) _ (by omega) (by omega) ⟨by omega, by rw [Nat.sub_self]; rfl⟩⟩
  · unfold w_Evaluator_concat_40_13
    simp (disch := omega) only [i32_lit, l64_lit, lc_eq, lc_ge, lc_le, lc_gt, lc_lt, jL_inj, jL_add, jL_sub, jL_mul, jL_neg, jL_and, jL_or, jL_xor, jL_mone, BitVec.xor_allOnes, nI_clamp, nI_ltI, nI_leI, nI_eq, nI_1, nI_add, nI_sub, nI_addm, nI_mul, vp_in_n, xi_pi, xi_pl, xl_pi, xl_pl, xb_pi, xb_pl, xqi_i, xql_l, xqv_v, xqi_e, xql_e, xqv_e, forall_eq, true_and, and_true, rc_fi h]
    refine ⟨fun _ => ?_, fun z => absurd (Nat.le_refl _) z⟩
    rw [hI.2]
    exact k
  · unfold w_Evaluator_concat_40_13
    obtain ⟨h1, h2⟩ := hI
    have hwi : bso B (bar B i) < 64 := by
      have := hw (i - bfi B t) (by omega)
      rw [show bfi B t + (i - bfi B t) = i by omega] at this
      omega
    simp (disch := omega) only [i32_lit, l64_lit, lc_eq, lc_ge, lc_le, lc_gt, lc_lt, jL_inj, jL_add, jL_sub, jL_mul, jL_neg, jL_and, jL_or, jL_xor, jL_mone, BitVec.xor_allOnes, nI_clamp, nI_ltI, nI_leI, nI_eq, nI_1, nI_add, nI_sub, nI_addm, nI_mul, vp_in_n, xi_pi, xi_pl, xl_pi, xl_pl, xb_pi, xb_pl, xqi_i, xql_l, xqv_v, xqi_e, xql_e, xqv_e, forall_eq, true_and, and_true, rc_fi h, rc_ar h, ar_cl w ht, ar_in w ht, hv _, ar_so w ht h, jL_shl _ hwi]
    refine ⟨fun z => absurd z (by omega), fun _ => hs _ ⟨by omega, ?_⟩⟩
    rw [show i + 1 - bfi B t = i - bfi B t + 1 by omega, h2]
    show _ = (catA _ _ _ <<< bso B (bar B (bfi B t + (i - bfi B t)))) ||| v (bar B (bfi B t + (i - bfi B t)))
    rw [show bfi B t + (i - bfi B t) = i by omega]
end EVAL
