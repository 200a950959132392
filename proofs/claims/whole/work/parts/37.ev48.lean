section EV48
variable {Q : xO → xS → Prop} {σ : xS} {B : Bk} {v : Nat → BitVec 64} {t J : Nat}
theorem e_folded_48 {op : Nat} (h : RC B σ) (w : wfB B) (ht : t < bma B) (hn : 1 ≤ bfi B (t + 1) - bfi B t) (ho : op < 64) (hv : wth B σ 49 v t)
    (k : Q (.inl (some (.long (jL (foldA (fun i => v (bar B (bfi B t + i))) op (bfi B (t + 1) - bfi B t - 1)))))) σ) : wp_Evaluator_folded_48 Q σ (nI t) (nI op) := by
  have hm := wf_ma w
  obtain ⟨f1, f2, f3⟩ := wf_fi w ht
  unfold wp_Evaluator_folded_48
  simp (disch := omega) only [i32_lit, l64_lit, lc_eq, lc_ge, lc_le, lc_gt, lc_lt, jL_inj, jL_add, jL_sub, jL_mul, jL_neg, jL_and, jL_or, jL_xor, jL_mone, BitVec.xor_allOnes, nI_clamp, nI_ltI, nI_leI, nI_eq, nI_1, nI_add, nI_sub, nI_addm, nI_mul, vp_in_n, xi_pi, xi_pl, xl_pi, xl_pl, xb_pi, xb_pl, xqi_i, xql_l, xqv_v, xqi_e, xql_e, xqv_e, forall_eq, true_and, and_true, rc_fi h, rc_ar h, ar_cl w ht, ar_in w ht, hv _]
  have key := loop_i (σ := BitVec 64) (fun n i a => w_Evaluator_folded_48_36 Q n (nI t) (nI op) (jL a) (nI i) σ) (fun i a => bfi B t + 1 ≤ i ∧ a = foldA (fun i => v (bar B (bfi B t + i))) op (i - bfi B t - 1)) (bfi B (t + 1)) (fun n a hI => ?_) (fun n i a hi hI hs => ?_)
  · exact ⟨_, key (bfi B (t + 1) - bfi B t) (bfi B t + 1) _ (by omega) (by omega) ⟨by omega, by rw [show bfi B t + 1 - bfi B t - 1 = 0 by omega]; rfl⟩⟩
  · unfold w_Evaluator_folded_48_36
    simp (disch := omega) only [i32_lit, l64_lit, lc_eq, lc_ge, lc_le, lc_gt, lc_lt, jL_inj, jL_add, jL_sub, jL_mul, jL_neg, jL_and, jL_or, jL_xor, jL_mone, BitVec.xor_allOnes, nI_clamp, nI_ltI, nI_leI, nI_eq, nI_1, nI_add, nI_sub, nI_addm, nI_mul, vp_in_n, xi_pi, xi_pl, xl_pi, xl_pl, xb_pi, xb_pl, xqi_i, xql_l, xqv_v, xqi_e, xql_e, xqv_e, forall_eq, true_and, and_true, rc_fi h]
    refine ⟨fun _ => ?_, fun z => absurd (Nat.le_refl _) z⟩
    rw [hI.2]
    exact k
  · unfold w_Evaluator_folded_48_36
    obtain ⟨h1, h2⟩ := hI
    have hs2 : ∀ a', a' = fop op a (v (bar B i)) → w_Evaluator_folded_48_36 Q n (nI t) (nI op) (jL a') (nI (i + 1)) σ := by
      intro a' ha'
      refine hs a' ⟨by omega, ?_⟩
      rw [show i + 1 - bfi B t - 1 = i - bfi B t - 1 + 1 by omega, ha', h2]
      show _ = fop op _ (v (bar B (bfi B t + (i - bfi B t - 1 + 1))))
      rw [show bfi B t + (i - bfi B t - 1 + 1) = i by omega]
    simp (disch := omega) only [i32_lit, l64_lit, lc_eq, lc_ge, lc_le, lc_gt, lc_lt, jL_inj, jL_add, jL_sub, jL_mul, jL_neg, jL_and, jL_or, jL_xor, jL_mone, BitVec.xor_allOnes, nI_clamp, nI_ltI, nI_leI, nI_eq, nI_1, nI_add, nI_sub, nI_addm, nI_mul, vp_in_n, xi_pi, xi_pl, xl_pi, xl_pl, xb_pi, xb_pl, xqi_i, xql_l, xqv_v, xqi_e, xql_e, xqv_e, forall_eq, true_and, and_true, rc_fi h, rc_ar h, ar_cl w ht, ar_in w ht, hv _]
    refine ⟨fun z => absurd z (by omega), fun _ => ⟨fun z => hs2 _ ?_, fun z => hs2 _ ?_, fun z => hs2 _ ?_, fun z => hs2 _ ?_, fun z => hs2 _ ?_⟩⟩
    · rw [fop, if_pos z]
    · rw [fop, if_neg (by omega), if_pos z]
    · rw [fop, if_neg (by omega), if_neg (by omega), if_pos z]
    · rw [fop, if_neg (by omega), if_neg (by omega), if_neg (by omega), if_pos z]
    · rw [fop, if_neg (by omega), if_neg (by omega), if_neg (by omega), if_neg (by omega)]
theorem e_implication_48 (h : RC B σ) (w : wfB B) (ht : t < bma B) (hn : 2 ≤ bfi B (t + 1) - bfi B t) (hv : wth B σ 49 v t)
    (k : Q (.inl (some (.long (jL (implA (fun i => v (bar B (bfi B t + (bfi B (t + 1) - bfi B t - 1 - i)))) (bfi B (t + 1) - bfi B t - 1)))))) σ) : wp_Evaluator_implication_48 Q σ (nI t) := by
  have hm := wf_ma w
  obtain ⟨f1, f2, f3⟩ := wf_fi w ht
  have key := loop_m (σ := Nat × BitVec 64) (fun n s => w_Evaluator_implication_48_42 Q n (nI t) (jL s.2) (nI s.1 - 1) σ) (fun s => bfi B t ≤ s.1 ∧ s.1 + 1 ≤ bfi B (t + 1) ∧ s.2 = implA (fun i => v (bar B (bfi B t + (bfi B (t + 1) - bfi B t - 1 - i)))) (bfi B (t + 1) - 1 - s.1)) (fun s => s.1) (fun n s hI hs => ?_)
  · unfold wp_Evaluator_implication_48
    simp (disch := omega) only [i32_lit, l64_lit, lc_eq, lc_ge, lc_le, lc_gt, lc_lt, jL_inj, jL_add, jL_sub, jL_mul, jL_neg, jL_and, jL_or, jL_xor, jL_mone, BitVec.xor_allOnes, nI_clamp, nI_ltI, nI_leI, nI_eq, nI_1, nI_add, nI_sub, nI_addm, nI_mul, vp_in_n, xi_pi, xi_pl, xl_pi, xl_pl, xb_pi, xb_pl, xqi_i, xql_l, xqv_v, xqi_e, xql_e, xqv_e, forall_eq, true_and, and_true, rc_fi h, rc_ar h, ar_cl w ht, ar_in w ht, hv _]
    have e2 : nI (bfi B (t + 1) - 2) = nI (bfi B (t + 1) - 1) - 1 := by rw [nI_sub1 (by omega), show bfi B (t + 1) - 1 - 1 = bfi B (t + 1) - 2 by omega]
    rw [e2]
    refine key (bfi B (t + 1) - 1, _) ⟨by show _ ≤ bfi B (t + 1) - 1; omega, by show bfi B (t + 1) - 1 + 1 ≤ _; omega, ?_⟩
    show v (bar B (bfi B (t + 1) - 1)) = implA _ (bfi B (t + 1) - 1 - (bfi B (t + 1) - 1))
    rw [Nat.sub_self]
    show _ = v (bar B (bfi B t + (bfi B (t + 1) - bfi B t - 1 - 0)))
    rw [show bfi B t + (bfi B (t + 1) - bfi B t - 1 - 0) = bfi B (t + 1) - 1 by omega]
  · obtain ⟨j, a⟩ := s
    obtain ⟨h1, h2, h3⟩ := hI
    dsimp only at h1 h2 h3 hs ⊢
    unfold w_Evaluator_implication_48_42
    have e0 : (nI t).toNatClampNeg = t := nI_clamp (by omega)
    rw [e0, rc_fi h (by omega)]
    refine ⟨vp_in_nI (by omega) (by decide), fun z => ?_, fun z => ?_⟩
    · rw [dn_lt (by omega) (by omega)] at z
      have : j = bfi B t := by omega
      subst this
      rw [show bfi B (t + 1) - 1 - bfi B t = bfi B (t + 1) - bfi B t - 1 by omega] at h3
      rw [h3]
      exact k
    · rw [dn_lt (by omega) (by omega)] at z
      simp (disch := omega) only [i32_lit, l64_lit, lc_eq, lc_ge, lc_le, lc_gt, lc_lt, jL_inj, jL_add, jL_sub, jL_mul, jL_neg, jL_and, jL_or, jL_xor, jL_mone, BitVec.xor_allOnes, nI_clamp, nI_ltI, nI_leI, nI_eq, nI_1, nI_add, nI_sub, nI_addm, nI_mul, vp_in_n, xi_pi, xi_pl, xl_pi, xl_pl, xb_pi, xb_pl, xqi_i, xql_l, xqv_v, xqi_e, xql_e, xqv_e, forall_eq, true_and, and_true, rc_ar h, ar_cl w ht, ar_in w ht, hv _]
      rw [show nI (j - 1) + -nI 1 = nI (j - 1) - 1 from (Int32.sub_eq_add_neg _ _).symm]
      refine hs (j - 1, _) ⟨by show _ ≤ j - 1; omega, by show j - 1 + 1 ≤ _; omega, ?_⟩ (by show j - 1 < j; omega)
      show _ = implA _ (bfi B (t + 1) - 1 - (j - 1))
      rw [show bfi B (t + 1) - 1 - (j - 1) = bfi B (t + 1) - 1 - j + 1 by omega, h3]
      show _ = implA _ _ ||| ~~~ v (bar B (bfi B t + (bfi B (t + 1) - bfi B t - 1 - (bfi B (t + 1) - 1 - j + 1))))
      rw [show bfi B t + (bfi B (t + 1) - bfi B t - 1 - (bfi B (t + 1) - 1 - j + 1)) = j - 1 by omega]
theorem e_isAllSame_48 (h : RC B σ) (w : wfB B) (ht : t < bma B) (hn : 1 ≤ bfi B (t + 1) - bfi B t) (hv : wth B σ 49 v t)
    (k1 : (∀ i, i + 1 < bfi B (t + 1) - bfi B t → v (bar B (bfi B t + (i + 1))) = v (bar B (bfi B t + i))) → Q (.inl (some (.int 1))) σ)
    (k0 : ¬ (∀ i, i + 1 < bfi B (t + 1) - bfi B t → v (bar B (bfi B t + (i + 1))) = v (bar B (bfi B t + i))) → Q (.inl (some (.int 0))) σ) : wp_Evaluator_isAllSame_48 Q σ (nI t) := by
  have hm := wf_ma w
  obtain ⟨f1, f2, f3⟩ := wf_fi w ht
  have key := loop_i (σ := Unit) (fun n i _ => w_Evaluator_isAllSame_48_12 Q n (nI t) (nI i) σ) (fun i _ => bfi B t + 1 ≤ i ∧ ∀ j, bfi B t + (j + 1) < i → v (bar B (bfi B t + (j + 1))) = v (bar B (bfi B t + j))) (bfi B (t + 1)) (fun n a hI => ?_) (fun n i a hi hI hs => ?_)
  · unfold wp_Evaluator_isAllSame_48
    simp (disch := omega) only [i32_lit, l64_lit, lc_eq, lc_ge, lc_le, lc_gt, lc_lt, jL_inj, jL_add, jL_sub, jL_mul, jL_neg, jL_and, jL_or, jL_xor, jL_mone, BitVec.xor_allOnes, nI_clamp, nI_ltI, nI_leI, nI_eq, nI_1, nI_add, nI_sub, nI_addm, nI_mul, vp_in_n, xi_pi, xi_pl, xl_pi, xl_pl, xb_pi, xb_pl, xqi_i, xql_l, xqv_v, xqi_e, xql_e, xqv_e, forall_eq, true_and, and_true, rc_fi h]
    exact ⟨_, key (bfi B (t + 1) - bfi B t) (bfi B t + 1) () (by omega) (by omega) ⟨by omega, fun j hj => by omega⟩⟩
  · unfold w_Evaluator_isAllSame_48_12
    simp (disch := omega) only [i32_lit, l64_lit, lc_eq, lc_ge, lc_le, lc_gt, lc_lt, jL_inj, jL_add, jL_sub, jL_mul, jL_neg, jL_and, jL_or, jL_xor, jL_mone, BitVec.xor_allOnes, nI_clamp, nI_ltI, nI_leI, nI_eq, nI_1, nI_add, nI_sub, nI_addm, nI_mul, vp_in_n, xi_pi, xi_pl, xl_pi, xl_pl, xb_pi, xb_pl, xqi_i, xql_l, xqv_v, xqi_e, xql_e, xqv_e, forall_eq, true_and, and_true, rc_fi h]
    exact ⟨fun _ => k1 (fun i hi => hI.2 i (by omega)), fun z => absurd (Nat.le_refl _) z⟩
  · unfold w_Evaluator_isAllSame_48_12
    obtain ⟨h1, h2⟩ := hI
    simp (disch := omega) only [i32_lit, l64_lit, lc_eq, lc_ge, lc_le, lc_gt, lc_lt, jL_inj, jL_add, jL_sub, jL_mul, jL_neg, jL_and, jL_or, jL_xor, jL_mone, BitVec.xor_allOnes, nI_clamp, nI_ltI, nI_leI, nI_eq, nI_1, nI_add, nI_sub, nI_addm, nI_mul, vp_in_n, xi_pi, xi_pl, xl_pi, xl_pl, xb_pi, xb_pl, xqi_i, xql_l, xqv_v, xqi_e, xql_e, xqv_e, forall_eq, true_and, and_true, rc_fi h, rc_ar h, ar_cl w ht, ar_in w ht, hv _]
    refine ⟨fun z => absurd z (by omega), fun _ => ⟨fun z => hs () ⟨by omega, fun j hj => ?_⟩, fun z => k0 (fun q => z ?_)⟩⟩
    · by_cases e : bfi B t + (j + 1) = i
      · rw [e, show bfi B t + j = i - 1 by omega]
        exact z
      · exact h2 j (by omega)
    · have := q (i - 1 - bfi B t) (by omega)
      rw [show bfi B t + (i - 1 - bfi B t + 1) = i by omega, show bfi B t + (i - 1 - bfi B t) = i - 1 by omega] at this
      exact this
theorem e_isAllOther_48 (h : RC B σ) (w : wfB B) (ht : t < bma B) (hn : 1 ≤ bfi B (t + 1) - bfi B t) (hv : wth B σ 49 v t)
    (k1 : (∀ i, i < bfi B (t + 1) - bfi B t → ∀ j, j < i → v (bar B (bfi B t + i)) ≠ v (bar B (bfi B t + j))) → Q (.inl (some (.int 1))) σ)
    (k0 : ¬ (∀ i, i < bfi B (t + 1) - bfi B t → ∀ j, j < i → v (bar B (bfi B t + i)) ≠ v (bar B (bfi B t + j))) → Q (.inl (some (.int 0))) σ) : wp_Evaluator_isAllOther_48 Q σ (nI t) := by
  have hm := wf_ma w
  obtain ⟨f1, f2, f3⟩ := wf_fi w ht
  have key := loop_i (σ := Unit) (fun n i _ => w_Evaluator_isAllOther_48_12 Q n (nI t) (nI i) σ) (fun i _ => bfi B t + 1 ≤ i ∧ ∀ a, bfi B t + a < i → ∀ j, j < a → v (bar B (bfi B t + a)) ≠ v (bar B (bfi B t + j))) (bfi B (t + 1)) (fun n a hI => ?_) (fun n i a hi hI hs => ?_)
  · unfold wp_Evaluator_isAllOther_48
    simp (disch := omega) only [i32_lit, l64_lit, lc_eq, lc_ge, lc_le, lc_gt, lc_lt, jL_inj, jL_add, jL_sub, jL_mul, jL_neg, jL_and, jL_or, jL_xor, jL_mone, BitVec.xor_allOnes, nI_clamp, nI_ltI, nI_leI, nI_eq, nI_1, nI_add, nI_sub, nI_addm, nI_mul, vp_in_n, xi_pi, xi_pl, xl_pi, xl_pl, xb_pi, xb_pl, xqi_i, xql_l, xqv_v, xqi_e, xql_e, xqv_e, forall_eq, true_and, and_true, rc_fi h]
    exact ⟨_, key (bfi B (t + 1) - bfi B t) (bfi B t + 1) () (by omega) (by omega) ⟨by omega, fun j hj => by omega⟩⟩
  · unfold w_Evaluator_isAllOther_48_12
    simp (disch := omega) only [i32_lit, l64_lit, lc_eq, lc_ge, lc_le, lc_gt, lc_lt, jL_inj, jL_add, jL_sub, jL_mul, jL_neg, jL_and, jL_or, jL_xor, jL_mone, BitVec.xor_allOnes, nI_clamp, nI_ltI, nI_leI, nI_eq, nI_1, nI_add, nI_sub, nI_addm, nI_mul, vp_in_n, xi_pi, xi_pl, xl_pi, xl_pl, xb_pi, xb_pl, xqi_i, xql_l, xqv_v, xqi_e, xql_e, xqv_e, forall_eq, true_and, and_true, rc_fi h]
    exact ⟨fun _ => k1 (fun i hi => hI.2 i (by omega)), fun z => absurd (Nat.le_refl _) z⟩
  · unfold w_Evaluator_isAllOther_48_12
    obtain ⟨h1, h2⟩ := hI
    have key2 := loop_i (σ := Unit) (fun m j _ => w_Evaluator_isAllOther_48_37 Q (w_Evaluator_isAllOther_48_12 Q n) m (nI t) (nI i) (nI j) σ) (fun j _ => bfi B t ≤ j ∧ ∀ b, bfi B t + b < j → v (bar B i) ≠ v (bar B (bfi B t + b))) i (fun m a hI => ?_) (fun m j a hj hI hs => ?_)
    · simp (disch := omega) only [i32_lit, l64_lit, lc_eq, lc_ge, lc_le, lc_gt, lc_lt, jL_inj, jL_add, jL_sub, jL_mul, jL_neg, jL_and, jL_or, jL_xor, jL_mone, BitVec.xor_allOnes, nI_clamp, nI_ltI, nI_leI, nI_eq, nI_1, nI_add, nI_sub, nI_addm, nI_mul, vp_in_n, xi_pi, xi_pl, xl_pi, xl_pl, xb_pi, xb_pl, xqi_i, xql_l, xqv_v, xqi_e, xql_e, xqv_e, forall_eq, true_and, and_true, rc_fi h]
      exact ⟨fun z => absurd z (by omega), fun _ => ⟨_, key2 (i - bfi B t + 1) (bfi B t) () (by omega) (by omega) ⟨by omega, fun b hb => by omega⟩⟩⟩
    · unfold w_Evaluator_isAllOther_48_37
      simp (disch := omega) only [i32_lit, l64_lit, lc_eq, lc_ge, lc_le, lc_gt, lc_lt, jL_inj, jL_add, jL_sub, jL_mul, jL_neg, jL_and, jL_or, jL_xor, jL_mone, BitVec.xor_allOnes, nI_clamp, nI_ltI, nI_leI, nI_eq, nI_1, nI_add, nI_sub, nI_addm, nI_mul, vp_in_n, xi_pi, xi_pl, xl_pi, xl_pl, xb_pi, xb_pl, xqi_i, xql_l, xqv_v, xqi_e, xql_e, xqv_e, forall_eq, true_and, and_true]
      refine ⟨fun _ => hs () ⟨by omega, fun b hb j hj => ?_⟩, fun z => absurd (Nat.le_refl _) z⟩
      by_cases e : bfi B t + b = i
      · rw [e]
        exact hI.2 j (by omega)
      · exact h2 b (by omega) j hj
    · unfold w_Evaluator_isAllOther_48_37
      obtain ⟨g1, g2⟩ := hI
      simp (disch := omega) only [i32_lit, l64_lit, lc_eq, lc_ge, lc_le, lc_gt, lc_lt, jL_inj, jL_add, jL_sub, jL_mul, jL_neg, jL_and, jL_or, jL_xor, jL_mone, BitVec.xor_allOnes, nI_clamp, nI_ltI, nI_leI, nI_eq, nI_1, nI_add, nI_sub, nI_addm, nI_mul, vp_in_n, xi_pi, xi_pl, xl_pi, xl_pl, xb_pi, xb_pl, xqi_i, xql_l, xqv_v, xqi_e, xql_e, xqv_e, forall_eq, true_and, and_true, rc_fi h, rc_ar h, ar_cl w ht, ar_in w ht, hv _]
      refine ⟨fun z => absurd z (by omega), fun _ => ⟨fun z => hs () ⟨by omega, fun b hb => ?_⟩, fun z => k0 (fun q => ?_)⟩⟩
      · by_cases e : bfi B t + b = j
        · rw [e]; exact z
        · exact g2 b (by omega)
      · have := q (i - bfi B t) (by omega) (j - bfi B t) (by omega)
        rw [show bfi B t + (i - bfi B t) = i by omega, show bfi B t + (j - bfi B t) = j by omega] at this
        exact this z
theorem e_concat_48 (h : RC B σ) (w : wfB B) (ht : t < bma B) (hw : ∀ i, i < bfi B (t + 1) - bfi B t → bso B (bar B (bfi B t + i)) ≤ 63) (hv : wth B σ 49 v t)
    (k : Q (.inl (some (.long (jL (catA (fun i => v (bar B (bfi B t + i))) (fun i => bso B (bar B (bfi B t + i))) (bfi B (t + 1) - bfi B t)))))) σ) : wp_Evaluator_concat_48 Q σ (nI t) := by
  have hm := wf_ma w
  obtain ⟨f1, f2, f3⟩ := wf_fi w ht
  have key := loop_i (σ := BitVec 64) (fun n i a => w_Evaluator_concat_48_13 Q n (nI t) (jL a) (nI i) σ) (fun i a => bfi B t ≤ i ∧ a = catA (fun i => v (bar B (bfi B t + i))) (fun i => bso B (bar B (bfi B t + i))) (i - bfi B t)) (bfi B (t + 1)) (fun n a hI => ?_) (fun n i a hi hI hs => ?_)
  · unfold wp_Evaluator_concat_48
    rw [jL_0]
    simp (disch := omega) only [i32_lit, l64_lit, lc_eq, lc_ge, lc_le, lc_gt, lc_lt, jL_inj, jL_add, jL_sub, jL_mul, jL_neg, jL_and, jL_or, jL_xor, jL_mone, BitVec.xor_allOnes, nI_clamp, nI_ltI, nI_leI, nI_eq, nI_1, nI_add, nI_sub, nI_addm, nI_mul, vp_in_n, xi_pi, xi_pl, xl_pi, xl_pl, xb_pi, xb_pl, xqi_i, xql_l, xqv_v, xqi_e, xql_e, xqv_e, forall_eq, true_and, and_true, rc_fi h]
    exact ⟨_, key (bfi B (t + 1) - bfi B t + 1) (bfi B t) _ (by omega) (by omega) ⟨by omega, by rw [Nat.sub_self]; rfl⟩⟩
  · unfold w_Evaluator_concat_48_13
    simp (disch := omega) only [i32_lit, l64_lit, lc_eq, lc_ge, lc_le, lc_gt, lc_lt, jL_inj, jL_add, jL_sub, jL_mul, jL_neg, jL_and, jL_or, jL_xor, jL_mone, BitVec.xor_allOnes, nI_clamp, nI_ltI, nI_leI, nI_eq, nI_1, nI_add, nI_sub, nI_addm, nI_mul, vp_in_n, xi_pi, xi_pl, xl_pi, xl_pl, xb_pi, xb_pl, xqi_i, xql_l, xqv_v, xqi_e, xql_e, xqv_e, forall_eq, true_and, and_true, rc_fi h]
    refine ⟨fun _ => ?_, fun z => absurd (Nat.le_refl _) z⟩
    rw [hI.2]
    exact k
  · unfold w_Evaluator_concat_48_13
    obtain ⟨h1, h2⟩ := hI
    have hwi : bso B (bar B i) < 64 := by
      have := hw (i - bfi B t) (by omega)
      rw [show bfi B t + (i - bfi B t) = i by omega] at this
      omega
    simp (disch := omega) only [i32_lit, l64_lit, lc_eq, lc_ge, lc_le, lc_gt, lc_lt, jL_inj, jL_add, jL_sub, jL_mul, jL_neg, jL_and, jL_or, jL_xor, jL_mone, BitVec.xor_allOnes, nI_clamp, nI_ltI, nI_leI, nI_eq, nI_1, nI_add, nI_sub, nI_addm, nI_mul, vp_in_n, xi_pi, xi_pl, xl_pi, xl_pl, xb_pi, xb_pl, xqi_i, xql_l, xqv_v, xqi_e, xql_e, xqv_e, forall_eq, true_and, and_true, rc_fi h, rc_ar h, ar_cl w ht, ar_in w ht, hv _, ar_so w ht h, jL_shl _ hwi]
    refine ⟨fun z => absurd z (by omega), fun _ => hs _ ⟨by omega, ?_⟩⟩
    rw [show i + 1 - bfi B t = i - bfi B t + 1 by omega, h2]
    show _ = (catA _ _ _ <<< bso B (bar B (bfi B t + (i - bfi B t)))) ||| v (bar B (bfi B t + (i - bfi B t)))
    rw [show bfi B t + (i - bfi B t) = i by omega]
theorem e_store_48 {a : Nat} {c x : BitVec 64} (h : RC B σ) (w : wfB B) (ha : a < bma B) (hs : 128 ≤ bso B a) (hz : szs (bso B a) ≤ 64) (hc : c.toNat < 2 ^ (bso B a / 128)) (hv : xl σ 49 a = jL (v a))
    (k : Q (.inl (some (.long (jL ((v a &&& ~~~ (bm (bso B a % 128) <<< csh (bso B a) c.toNat)) ||| (x <<< csh (bso B a) c.toNat)))))) σ) : wp_Evaluator_store_48 Q σ (nI a) (jL c) (jL x) := by
  have hm := wf_ma w
  have hk := wf_so w ha
  have hl := hk.lt
  have hsh := csh_lt (c := c.toNat) hk hs
  unfold wp_Evaluator_store_48
  simp (disch := omega) only [i32_lit, l64_lit, lc_eq, lc_ge, lc_le, lc_gt, lc_lt, jL_inj, jL_add, jL_sub, jL_mul, jL_neg, jL_and, jL_or, jL_xor, jL_mone, BitVec.xor_allOnes, nI_clamp, nI_ltI, nI_leI, nI_eq, nI_1, nI_add, nI_sub, nI_addm, nI_mul, vp_in_n, xi_pi, xi_pl, xl_pi, xl_pl, xb_pi, xb_pl, xqi_i, xql_l, xqv_v, xqi_e, xql_e, xqv_e, forall_eq, true_and, and_true, rc_so h]
  refine p_cellShift hk hc ?_
  simp (disch := omega) only [i32_lit, l64_lit, lc_eq, lc_ge, lc_le, lc_gt, lc_lt, jL_inj, jL_add, jL_sub, jL_mul, jL_neg, jL_and, jL_or, jL_xor, jL_mone, BitVec.xor_allOnes, nI_clamp, nI_ltI, nI_leI, nI_eq, nI_1, nI_add, nI_sub, nI_addm, nI_mul, vp_in_n, xi_pi, xi_pl, xl_pi, xl_pl, xb_pi, xb_pl, xqi_i, xql_l, xqv_v, xqi_e, xql_e, xqv_e, forall_eq, true_and, and_true]
  refine p_width (by omega) ?_
  simp (disch := omega) only [i32_lit, l64_lit, lc_eq, lc_ge, lc_le, lc_gt, lc_lt, jL_inj, jL_add, jL_sub, jL_mul, jL_neg, jL_and, jL_or, jL_xor, jL_mone, BitVec.xor_allOnes, nI_clamp, nI_ltI, nI_leI, nI_eq, nI_1, nI_add, nI_sub, nI_addm, nI_mul, vp_in_n, xi_pi, xi_pl, xl_pi, xl_pl, xb_pi, xb_pl, xqi_i, xql_l, xqv_v, xqi_e, xql_e, xqv_e, forall_eq, true_and, and_true]
  refine p_mask hk.2.1 ?_
  simp (disch := omega) only [i32_lit, l64_lit, lc_eq, lc_ge, lc_le, lc_gt, lc_lt, jL_inj, jL_add, jL_sub, jL_mul, jL_neg, jL_and, jL_or, jL_xor, jL_mone, BitVec.xor_allOnes, nI_clamp, nI_ltI, nI_leI, nI_eq, nI_1, nI_add, nI_sub, nI_addm, nI_mul, vp_in_n, xi_pi, xi_pl, xl_pi, xl_pl, xb_pi, xb_pl, xqi_i, xql_l, xqv_v, xqi_e, xql_e, xqv_e, forall_eq, true_and, and_true, hv, jL_shl _ (show csh (bso B a) c.toNat < 64 by omega)]
  exact k
theorem e_applied_48 (h : RC B σ) (w : wfB B) (ht : t < bma B) (hv : wth B σ 49 v t) (vb : vbd B v t) (hS : bsz B ≤ 16) (n7 : bop B t ≠ 47) (n8 : bop B t ≠ 48)
    (k : Q (.inl (some (.long (jL (appl B v t))))) σ) : wp_Evaluator_applied_48 Q σ (nI t) (nI (bop B t)) (nI (bfi B t)) := by
  have hm := wf_ma w
  obtain ⟨f1, f2, f3⟩ := wf_fi w ht
  have ty := wf_ty w ht
  have hop := typ_op ty
  have hne : 1 ≤ bfi B (t + 1) - bfi B t := by
    have := ty
    unfold typ at this
    dsimp only at this
    split at this <;> omega
  have aso : ∀ i, bfi B t ≤ i → i < bfi B (t + 1) → okS (bso B (bar B i)) := fun i h1 h2 => wf_so w (by have := wf_ar w ht h1 h2; omega)
  have asz : ∀ i, bfi B t ≤ i → i < bfi B (t + 1) → 128 ≤ bso B (bar B i) → szs (bso B (bar B i)) ≤ 16 := fun i h1 h2 h3 => Nat.le_trans ((w.2.2.2.1 _ (by have := wf_ar w ht h1 h2; omega)).2.2 h3) hS
  have ix : 2 ≤ bfi B (t + 1) - bfi B t → 128 ≤ bso B (bar B (bfi B t)) → bso B (bar B (bfi B t + 1)) = bso B (bar B (bfi B t)) / 128 → (v (bar B (bfi B t + 1))).toNat < 2 ^ (bso B (bar B (bfi B t)) / 128) := by
    intro h1 h2 h3
    have h4 := vb (bfi B t + 1) (by omega) (by omega)
    have h5 := aso (bfi B t) (by omega) (by omega)
    have h6 := h5.1
    rw [h3, vec_sz (by omega) (by omega)] at h4
    exact h4
  unfold wp_Evaluator_applied_48
  simp (disch := omega) only [i32_lit, l64_lit, lc_eq, lc_ge, lc_le, lc_gt, lc_lt, jL_inj, jL_add, jL_sub, jL_mul, jL_neg, jL_and, jL_or, jL_xor, jL_mone, BitVec.xor_allOnes, nI_clamp, nI_ltI, nI_leI, nI_eq, nI_1, nI_add, nI_sub, nI_addm, nI_mul, vp_in_n, xi_pi, xi_pl, xl_pi, xl_pl, xb_pi, xb_pl, xqi_i, xql_l, xqv_v, xqi_e, xql_e, xqv_e, forall_eq, true_and, and_true, rc_ar h, ar_cl w ht, ar_in w ht, hv _]
  refine ⟨fun z => ?_, fun z => ?_, fun z => ?_, fun z => ?_, fun z => ?_, fun z => ?_, fun z => ?_, fun z => ?_, fun z => ?_, fun z => ?_, fun z => ?_, fun z => ?_, fun z => ?_, fun z => ?_, fun z => ?_⟩
  · have y := ty_10 ty z
    rw [ap_10 z] at k
    simp (disch := omega) only [i32_lit, l64_lit, lc_eq, lc_ge, lc_le, lc_gt, lc_lt, jL_inj, jL_add, jL_sub, jL_mul, jL_neg, jL_and, jL_or, jL_xor, jL_mone, BitVec.xor_allOnes, nI_clamp, nI_ltI, nI_leI, nI_eq, nI_1, nI_add, nI_sub, nI_addm, nI_mul, vp_in_n, xi_pi, xi_pl, xl_pi, xl_pl, xb_pi, xb_pl, xqi_i, xql_l, xqv_v, xqi_e, xql_e, xqv_e, forall_eq, true_and, and_true, rc_lo h, jL_ushr _ (show blo B t < 64 by omega)]
    exact k
  · rw [ap_11 z] at k
    exact k
  · have y := ty_12 ty z
    rw [ap_12 z] at k
    simp (disch := omega) only [i32_lit, l64_lit, lc_eq, lc_ge, lc_le, lc_gt, lc_lt, jL_inj, jL_add, jL_sub, jL_mul, jL_neg, jL_and, jL_or, jL_xor, jL_mone, BitVec.xor_allOnes, nI_clamp, nI_ltI, nI_leI, nI_eq, nI_1, nI_add, nI_sub, nI_addm, nI_mul, vp_in_n, xi_pi, xi_pl, xl_pi, xl_pl, xb_pi, xb_pl, xqi_i, xql_l, xqv_v, xqi_e, xql_e, xqv_e, forall_eq, true_and, and_true, ar_so w ht h]
    exact p_signed (by omega) (by omega) k
  · rcases z with z | z
    · rw [ap_13 z] at k; exact k
    · rw [ap_21 z] at k; exact k
  · rcases z with z | z | z | z | z | z | z | z
    · rw [ap_14 z] at k; rw [z]; exact e_folded_48 h w ht hne (by decide) hv k
    · rw [ap_15 z] at k; rw [z]; exact e_folded_48 h w ht hne (by decide) hv k
    · rw [ap_16 z] at k; rw [z]; exact e_folded_48 h w ht hne (by decide) hv k
    · rw [ap_23 z] at k; rw [z]; exact e_folded_48 h w ht hne (by decide) hv k
    · rw [ap_24 z] at k; rw [z]; exact e_folded_48 h w ht hne (by decide) hv k
    · rw [ap_25 z] at k; rw [z]; exact e_folded_48 h w ht hne (by decide) hv k
    · rw [ap_26 z] at k; rw [z]; exact e_folded_48 h w ht hne (by decide) hv k
    · rw [ap_27 z] at k; rw [z]; exact e_folded_48 h w ht hne (by decide) hv k
  · have y := ty_17 ty z
    rw [ap_17 z] at k
    exact e_implication_48 h w ht y.1 hv k
  · have y := ty_18 ty z
    rw [ap_18 z] at k
    simp (disch := omega) only [i32_lit, l64_lit, lc_eq, lc_ge, lc_le, lc_gt, lc_lt, jL_inj, jL_add, jL_sub, jL_mul, jL_neg, jL_and, jL_or, jL_xor, jL_mone, BitVec.xor_allOnes, nI_clamp, nI_ltI, nI_leI, nI_eq, nI_1, nI_add, nI_sub, nI_addm, nI_mul, vp_in_n, xi_pi, xi_pl, xl_pi, xl_pl, xb_pi, xb_pl, xqi_i, xql_l, xqv_v, xqi_e, xql_e, xqv_e, forall_eq, true_and, and_true, rc_ar h, ar_cl w ht, ar_in w ht, hv _]
    refine ⟨fun q => ?_, fun q => ?_⟩
    · rw [if_pos q] at k; exact k
    · rw [if_neg q] at k; exact k
  · have y := ty_19 ty z
    rw [ap_19 z] at k
    refine e_isAllSame_48 h w ht hne hv (fun q => ?_) (fun q => ?_)
    · rw [bit_t q] at k; exact ⟨fun y => absurd y (by decide), fun _ => k⟩
    · rw [bit_f q] at k; exact ⟨fun _ => k, fun y => absurd rfl y⟩
  · have y := ty_20 ty z
    rw [ap_20 z] at k
    refine e_isAllOther_48 h w ht hne hv (fun q => ?_) (fun q => ?_)
    · rw [bit_t q] at k; exact ⟨fun y => absurd y (by decide), fun _ => k⟩
    · rw [bit_f q] at k; exact ⟨fun _ => k, fun y => absurd rfl y⟩
  · rw [ap_22 z] at k
    exact k
  · have z2 : 36 ≤ bop B t ∧ bop B t ≤ 43 := by omega
    have y : bfi B (t + 1) - bfi B t = 2 ∧ 1 ≤ bso B (bar B (bfi B t)) ∧ bso B (bar B (bfi B t)) ≤ 64 := by
      rcases z with z | z | z | z | z | z | z | z
      · have := ty_36 ty z; omega
      · have := ty_37 ty z; omega
      · have := ty_38 ty z; omega
      · have := ty_39 ty z; omega
      · have := ty_40 ty z; omega
      · have := ty_41 ty z; omega
      · have := ty_42 ty z; omega
      · have := ty_43 ty z; omega
    have ka : appl B v t = bit (cmpA (bop B t) (v (bar B (bfi B t))) (v (bar B (bfi B t + 1))) (bso B (bar B (bfi B t)))) := by
      rcases z with z | z | z | z | z | z | z | z
      · rw [ap_36 z, z]
      · rw [ap_37 z, z]
      · rw [ap_38 z, z]
      · rw [ap_39 z, z]
      · rw [ap_40 z, z]
      · rw [ap_41 z, z]
      · rw [ap_42 z, z]
      · rw [ap_43 z, z]
    rw [ka] at k
    simp (disch := omega) only [i32_lit, l64_lit, lc_eq, lc_ge, lc_le, lc_gt, lc_lt, jL_inj, jL_add, jL_sub, jL_mul, jL_neg, jL_and, jL_or, jL_xor, jL_mone, BitVec.xor_allOnes, nI_clamp, nI_ltI, nI_leI, nI_eq, nI_1, nI_add, nI_sub, nI_addm, nI_mul, vp_in_n, xi_pi, xi_pl, xl_pi, xl_pl, xb_pi, xb_pl, xqi_i, xql_l, xqv_v, xqi_e, xql_e, xqv_e, forall_eq, true_and, and_true, rc_ar h, ar_cl w ht, ar_in w ht, ar_so w ht h, hv _]
    refine p_compare z2.1 z2.2 y.2.1 y.2.2 (fun q => ?_) (fun q => ?_)
    · rw [bit_t q] at k; exact ⟨fun y => absurd y (by decide), fun _ => k⟩
    · rw [bit_f q] at k; exact ⟨fun _ => k, fun y => absurd rfl y⟩
  · have y := ty_44 ty z
    rw [ap_44 z] at k
    exact e_concat_48 h w ht (fun i hi => (y.2.1 i hi).2) hv k
  · have y := ty_45 ty z
    rw [ap_45 z] at k
    have ok0 := aso (bfi B t) (by omega) (by omega)
    have sz0 := asz (bfi B t) (by omega) (by omega) y.2.1
    have cl := csh_lt (c := (v (bar B (bfi B t + 1))).toNat) ok0 y.2.1
    simp (disch := omega) only [i32_lit, l64_lit, lc_eq, lc_ge, lc_le, lc_gt, lc_lt, jL_inj, jL_add, jL_sub, jL_mul, jL_neg, jL_and, jL_or, jL_xor, jL_mone, BitVec.xor_allOnes, nI_clamp, nI_ltI, nI_leI, nI_eq, nI_1, nI_add, nI_sub, nI_addm, nI_mul, vp_in_n, xi_pi, xi_pl, xl_pi, xl_pl, xb_pi, xb_pl, xqi_i, xql_l, xqv_v, xqi_e, xql_e, xqv_e, forall_eq, true_and, and_true, rc_ar h, ar_cl w ht, ar_in w ht, ar_so w ht h, hv _]
    exact p_cell ok0 (ix (by omega) y.2.1 y.2.2.1) (by omega) k
  · have y := ty_46 ty z
    rw [ap_46 z] at k
    have ok0 := aso (bfi B t) (by omega) (by omega)
    have sz0 := asz (bfi B t) (by omega) (by omega) y.2.1
    have a0 := wf_ar w ht (i := bfi B t) (by omega) (by omega)
    simp (disch := omega) only [i32_lit, l64_lit, lc_eq, lc_ge, lc_le, lc_gt, lc_lt, jL_inj, jL_add, jL_sub, jL_mul, jL_neg, jL_and, jL_or, jL_xor, jL_mone, BitVec.xor_allOnes, nI_clamp, nI_ltI, nI_leI, nI_eq, nI_1, nI_add, nI_sub, nI_addm, nI_mul, vp_in_n, xi_pi, xi_pl, xl_pi, xl_pl, xb_pi, xb_pl, xqi_i, xql_l, xqv_v, xqi_e, xql_e, xqv_e, forall_eq, true_and, and_true, rc_ar h, ar_cl w ht, ar_in w ht, ar_so w ht h, hv _]
    exact e_store_48 h w (by omega) y.2.1 (by omega) (ix (by omega) y.2.1 y.2.2.1) (hv _ (by omega) (by omega)) k
  · have z2 : 28 ≤ bop B t ∧ bop B t ≤ 35 := by omega
    have zz : bop B t = 28 ∨ bop B t = 29 ∨ bop B t = 30 ∨ bop B t = 31 ∨ bop B t = 32 ∨ bop B t = 33 ∨ bop B t = 34 ∨ bop B t = 35 := by omega
    have y : bfi B (t + 1) - bfi B t = 2 ∧ 1 ≤ bso B (bar B (bfi B t)) ∧ bso B (bar B (bfi B t)) ≤ 64 := by
      rcases zz with z | z | z | z | z | z | z | z
      · have := ty_28 ty z; omega
      · have := ty_29 ty z; omega
      · have := ty_30 ty z; omega
      · have := ty_31 ty z; omega
      · have := ty_32 ty z; omega
      · have := ty_33 ty z; omega
      · have := ty_34 ty z; omega
      · have := ty_35 ty z; omega
    have ka : appl B v t = two (bop B t) (v (bar B (bfi B t))) (v (bar B (bfi B t + 1))) (bso B (bar B (bfi B t))) := by
      rcases zz with z | z | z | z | z | z | z | z
      · rw [ap_28 z, z]
      · rw [ap_29 z, z]
      · rw [ap_30 z, z]
      · rw [ap_31 z, z]
      · rw [ap_32 z, z]
      · rw [ap_33 z, z]
      · rw [ap_34 z, z]
      · rw [ap_35 z, z]
    rw [ka] at k
    simp (disch := omega) only [i32_lit, l64_lit, lc_eq, lc_ge, lc_le, lc_gt, lc_lt, jL_inj, jL_add, jL_sub, jL_mul, jL_neg, jL_and, jL_or, jL_xor, jL_mone, BitVec.xor_allOnes, nI_clamp, nI_ltI, nI_leI, nI_eq, nI_1, nI_add, nI_sub, nI_addm, nI_mul, vp_in_n, xi_pi, xi_pl, xl_pi, xl_pl, xb_pi, xb_pl, xqi_i, xql_l, xqv_v, xqi_e, xql_e, xqv_e, forall_eq, true_and, and_true, rc_ar h, ar_cl w ht, ar_in w ht, ar_so w ht h, hv _]
    exact p_two z2.1 z2.2 y.2.1 y.2.2 k
theorem e_workOut_48 {S J : Nat} (h : RC B σ) (w : wfB B) (ht : t < bma B) (hv : wth B σ 49 v t) (vb : vbd B v t) (hS : bsz B ≤ 16) (h7 : bop B t = 47 → xl σ 49 t = jL (stp B S J v t))
    (k : ∀ σ', (∀ a b, xi σ' a b = xi σ a b) → (∀ a b, (a ≠ 49 ∨ b ≠ t) → xl σ' a b = xl σ a b) → xb σ' = xb σ → xl σ' 49 t = jL (stp B S J v t) → Q (.inl none) σ') : wp_Evaluator_workOut_48 Q σ (nI t) := by
  have hm := wf_ma w
  have hop := typ_op (wf_ty w ht)
  unfold wp_Evaluator_workOut_48
  simp (disch := omega) only [i32_lit, l64_lit, lc_eq, lc_ge, lc_le, lc_gt, lc_lt, jL_inj, jL_add, jL_sub, jL_mul, jL_neg, jL_and, jL_or, jL_xor, jL_mone, BitVec.xor_allOnes, nI_clamp, nI_ltI, nI_leI, nI_eq, nI_1, nI_add, nI_sub, nI_addm, nI_mul, vp_in_n, xi_pi, xi_pl, xl_pi, xl_pl, xb_pi, xb_pl, xqi_i, xql_l, xqv_v, xqi_e, xql_e, xqv_e, forall_eq, true_and, and_true, rc_op h, rc_fi h, rc_bi h]
  refine ⟨fun z => ⟨fun y => ?_, fun y => ?_⟩, fun z => ?_⟩
  · exact k σ (fun _ _ => rfl) (fun _ _ _ => rfl) rfl (h7 y)
  · refine e_applied_48 h w ht hv vb hS y z ?_
    simp (disch := omega) only [i32_lit, l64_lit, lc_eq, lc_ge, lc_le, lc_gt, lc_lt, jL_inj, jL_add, jL_sub, jL_mul, jL_neg, jL_and, jL_or, jL_xor, jL_mone, BitVec.xor_allOnes, nI_clamp, nI_ltI, nI_leI, nI_eq, nI_1, nI_add, nI_sub, nI_addm, nI_mul, vp_in_n, xi_pi, xi_pl, xl_pi, xl_pl, xb_pi, xb_pl, xqi_i, xql_l, xqv_v, xqi_e, xql_e, xqv_e, forall_eq, true_and, and_true, rc_fu h]
    refine k _ (fun _ _ => rfl) (fun a b q => ?_) rfl ?_
    · rw [xl_pl, if_neg (by omega)]
    · rw [xl_pl, if_pos ⟨rfl, rfl⟩]
      unfold stp
      rw [if_neg y, if_neg z]
  · refine k _ (fun _ _ => rfl) (fun a b q => ?_) rfl ?_
    · rw [xl_pl, if_neg (by omega)]
    · rw [xl_pl, if_pos ⟨rfl, rfl⟩]
      unfold stp
      rw [if_neg (by omega), if_pos z]
theorem e_takeThings_48 (h : RC B σ) (w : wfB B) (hS : bsz B ≤ 16) (hJ : J < 65536)
    (k : ∀ σ', onlyL 49 σ σ' → (∀ i, i < bth B → xl σ' 49 (btt B i) = jL (ev B J (btt B i))) → (∀ a, (∀ i, i < bth B → a ≠ btt B i) → xl σ' 49 a = xl σ 49 a) → Q (.inl none) σ') : wp_Evaluator_takeThings_48 Q σ (nI J) (nI (bsz B)) := by
  have hm := wf_ma w
  have ht5 : bth B ≤ 500 := w.1.2.2.2.1
  have key := loop_i (σ := xS) (fun n i s => w_Evaluator_takeThings_48_2 Q n (nI J) (nI (bsz B)) (nI i) s) (fun i s => onlyL 49 σ s ∧ (∀ j, j < i → xl s 49 (btt B j) = jL (ev B J (btt B j))) ∧ ∀ a, (∀ j, j < bth B → a ≠ btt B j) → xl s 49 a = xl σ 49 a) (bth B) (fun n s hI => ?_) (fun n i s hi hI hs => ?_)
  · exact ⟨_, key (bth B + 1) 0 σ (by omega) (by omega) ⟨onlyL.refl _ _, fun j hj => absurd hj (by omega), fun _ _ => rfl⟩⟩
  · unfold w_Evaluator_takeThings_48_2
    have r := hI.1.rc (by decide) h
    simp (disch := omega) only [i32_lit, l64_lit, lc_eq, lc_ge, lc_le, lc_gt, lc_lt, jL_inj, jL_add, jL_sub, jL_mul, jL_neg, jL_and, jL_or, jL_xor, jL_mone, BitVec.xor_allOnes, nI_clamp, nI_ltI, nI_leI, nI_eq, nI_1, nI_add, nI_sub, nI_addm, nI_mul, vp_in_n, xi_pi, xi_pl, xl_pi, xl_pl, xb_pi, xb_pl, xqi_i, xql_l, xqv_v, xqi_e, xql_e, xqv_e, forall_eq, true_and, and_true, r.1.2.2.2.1]
    exact ⟨fun _ => k s hI.1 hI.2.1 hI.2.2, fun z => absurd (Nat.le_refl _) z⟩
  · unfold w_Evaluator_takeThings_48_2
    obtain ⟨h1, h2, h3⟩ := hI
    have r := h1.rc (by decide) h
    have y := wf_th w hi
    have b1 := be_sz w (show i + 1 ≤ bth B by omega)
    simp (disch := omega) only [i32_lit, l64_lit, lc_eq, lc_ge, lc_le, lc_gt, lc_lt, jL_inj, jL_add, jL_sub, jL_mul, jL_neg, jL_and, jL_or, jL_xor, jL_mone, BitVec.xor_allOnes, nI_clamp, nI_ltI, nI_leI, nI_eq, nI_1, nI_add, nI_sub, nI_addm, nI_mul, vp_in_n, xi_pi, xi_pl, xl_pi, xl_pl, xb_pi, xb_pl, xqi_i, xql_l, xqv_v, xqi_e, xql_e, xqv_e, forall_eq, true_and, and_true, r.1.2.2.2.1, rc_tt r]
    refine ⟨fun z => absurd z (by omega), fun _ => ?_⟩
    unfold wp_Book_shift
    simp (disch := omega) only [i32_lit, l64_lit, lc_eq, lc_ge, lc_le, lc_gt, lc_lt, jL_inj, jL_add, jL_sub, jL_mul, jL_neg, jL_and, jL_or, jL_xor, jL_mone, BitVec.xor_allOnes, nI_clamp, nI_ltI, nI_leI, nI_eq, nI_1, nI_add, nI_sub, nI_addm, nI_mul, vp_in_n, xi_pi, xi_pl, xl_pi, xl_pl, xb_pi, xb_pl, xqi_i, xql_l, xqv_v, xqi_e, xql_e, xqv_e, forall_eq, true_and, and_true, rc_be r, rc_fu r, nI_ushr]
    rw [jL_i2l (by have := Nat.div_le_self J (2 ^ (bsz B - bbe B (i + 1))); omega), ofNat_shr (by omega), jL_and, ← ev_th w hi]
    refine hs _ ⟨h1.trans (onlyL.pl _ _ _ _), fun j hj => ?_, fun a ha => ?_⟩
    · rw [xl_pl]
      by_cases e : btt B j = btt B i
      · rw [if_pos ⟨rfl, e⟩, e]
      · rw [if_neg (fun z => e z.2)]
        exact h2 j (by
          by_cases q : j = i
          · exact absurd (congrArg (btt B) q) e
          · omega)
    · rw [xl_pl, if_neg (fun z => ha i hi z.2)]
      exact h3 a ha
theorem e_evaluate_48 {last : Nat} (h : RC B σ) (w : wfB B) (hS : bsz B ≤ 16) (hJ : J < 65536) (hl : last < bma B)
    (k : ∀ σ', onlyL 49 σ σ' → (∀ a, a ≤ last → xl σ' 49 a = jL (ev B J a)) → Q (.inl none) σ') : wp_Evaluator_evaluate_48 Q σ (nI J) (nI (bsz B)) (nI last) := by
  have hm := wf_ma w
  unfold wp_Evaluator_evaluate_48
  refine e_takeThings_48 h w hS hJ (fun s0 g1 g2 g3 => ?_)
  show ∃ m, w_Evaluator_evaluate_48_9 Q m (nI last) 0 s0
  have key := loop_i (σ := xS) (fun n i s => w_Evaluator_evaluate_48_9 Q n (nI last) (nI i) s) (fun i s => onlyL 49 σ s ∧ (∀ j, j < bth B → xl s 49 (btt B j) = jL (ev B J (btt B j))) ∧ ∀ a, a < i → xl s 49 a = jL (ev B J a)) (last + 1) (fun n s hI => ?_) (fun n i s hi hI hs => ?_)
  · exact ⟨_, key (last + 2) 0 s0 (by omega) (by omega) ⟨g1, g2, fun a ha => absurd ha (by omega)⟩⟩
  · unfold w_Evaluator_evaluate_48_9
    simp (disch := omega) only [i32_lit, l64_lit, lc_eq, lc_ge, lc_le, lc_gt, lc_lt, jL_inj, jL_add, jL_sub, jL_mul, jL_neg, jL_and, jL_or, jL_xor, jL_mone, BitVec.xor_allOnes, nI_clamp, nI_ltI, nI_leI, nI_eq, nI_1, nI_add, nI_sub, nI_addm, nI_mul, vp_in_n, xi_pi, xi_pl, xl_pi, xl_pl, xb_pi, xb_pl, xqi_i, xql_l, xqv_v, xqi_e, xql_e, xqv_e, forall_eq, true_and, and_true]
    exact ⟨fun _ => k s hI.1 (fun a ha => hI.2.2 a (by omega)), fun z => absurd (Nat.lt_succ_self _) z⟩
  · unfold w_Evaluator_evaluate_48_9
    obtain ⟨h1, h2, h3⟩ := hI
    have r := h1.rc (by decide) h
    simp (disch := omega) only [i32_lit, l64_lit, lc_eq, lc_ge, lc_le, lc_gt, lc_lt, jL_inj, jL_add, jL_sub, jL_mul, jL_neg, jL_and, jL_or, jL_xor, jL_mone, BitVec.xor_allOnes, nI_clamp, nI_ltI, nI_leI, nI_eq, nI_1, nI_add, nI_sub, nI_addm, nI_mul, vp_in_n, xi_pi, xi_pl, xl_pi, xl_pl, xb_pi, xb_pl, xqi_i, xql_l, xqv_v, xqi_e, xql_e, xqv_e, forall_eq, true_and, and_true]
    refine ⟨fun z => absurd z (by omega), fun _ => ?_⟩
    have ht : i < bma B := by omega
    refine e_workOut_48 (S := bsz B) (J := J) r w ht (ev_wth w ht h3) (ev_vbd w ht) hS (fun h7 => ?_) (fun s' e1 e2 e3 e4 => ?_)
    · have y := ty_47 (wf_ty w ht) h7
      have := h2 (blo B i) y.2.1
      rw [y.2.2] at this
      rw [this, ev_eq]
    · simp (disch := omega) only [i32_lit, l64_lit, lc_eq, lc_ge, lc_le, lc_gt, lc_lt, jL_inj, jL_add, jL_sub, jL_mul, jL_neg, jL_and, jL_or, jL_xor, jL_mone, BitVec.xor_allOnes, nI_clamp, nI_ltI, nI_leI, nI_eq, nI_1, nI_add, nI_sub, nI_addm, nI_mul, vp_in_n, xi_pi, xi_pl, xl_pi, xl_pl, xb_pi, xb_pl, xqi_i, xql_l, xqv_v, xqi_e, xql_e, xqv_e, forall_eq, true_and, and_true]
      refine hs s' ⟨h1.trans ⟨e1, fun a b q => e2 a b (Or.inl q), e3⟩, fun j hj => ?_, fun a ha => ?_⟩
      · by_cases q : btt B j = i
        · rw [q, e4, ev_eq]
        · rw [e2 _ _ (Or.inr q)]
          exact h2 j hj
      · by_cases q : a = i
        · rw [q, e4, ev_eq]
        · rw [e2 _ _ (Or.inr q)]
          exact h3 a (by omega)
end EV48
