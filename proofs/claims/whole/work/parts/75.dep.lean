/-! what a term is worth hangs on its arguments alone; on which bits it depends -/
theorem foldA_cg {g g' : Nat → BitVec 64} {op : Nat} : ∀ n, (∀ i, i ≤ n → g i = g' i) → foldA g op n = foldA g' op n
  | 0, h => h 0 (Nat.le_refl _)
  | n + 1, h => by
    unfold foldA
    rw [foldA_cg n (fun i hi => h i (by omega)), h (n + 1) (Nat.le_refl _)]
theorem implA_cg {g g' : Nat → BitVec 64} : ∀ n, (∀ i, i ≤ n → g i = g' i) → implA g n = implA g' n
  | 0, h => h 0 (Nat.le_refl _)
  | n + 1, h => by
    unfold implA
    rw [implA_cg n (fun i hi => h i (by omega)), h (n + 1) (Nat.le_refl _)]
theorem catA_cg {g g' : Nat → BitVec 64} {w : Nat → Nat} : ∀ n, (∀ i, i < n → g i = g' i) → catA g w n = catA g' w n
  | 0, h => rfl
  | n + 1, h => by
    unfold catA
    rw [catA_cg n (fun i hi => h i (by omega)), h n (by omega)]
theorem bit_cg {p q : Prop} (h : p ↔ q) : bit p = bit q := by rw [propext h]
section DEP
variable {B : Bk} {σ : xS} {Q : xO → xS → Prop} {t J J' : Nat} {v v' : Nat → BitVec 64}
theorem appl_cg (w : wfB B) (ht : t < bma B) (n7 : bop B t ≠ 47) (n8 : bop B t ≠ 48) (h : ∀ i, i < bfi B (t + 1) - bfi B t → v (bar B (bfi B t + i)) = v' (bar B (bfi B t + i))) : appl B v t = appl B v' t := by
  have ty := wf_ty w ht
  have hop := typ_op ty
  have n1 := typ_n1 ty n7 n8
  have h0 : v (bar B (bfi B t)) = v' (bar B (bfi B t)) := h 0 (by omega)
  have hz : bop B t = 10 ∨ bop B t = 11 ∨ bop B t = 12 ∨ bop B t = 13 ∨ bop B t = 14 ∨ bop B t = 15 ∨ bop B t = 16 ∨ bop B t = 17 ∨ bop B t = 18 ∨ bop B t = 19 ∨ bop B t = 20 ∨ bop B t = 21 ∨ bop B t = 22 ∨ bop B t = 23 ∨ bop B t = 24 ∨ bop B t = 25 ∨ bop B t = 26 ∨ bop B t = 27 ∨ bop B t = 28 ∨ bop B t = 29 ∨ bop B t = 30 ∨ bop B t = 31 ∨ bop B t = 32 ∨ bop B t = 33 ∨ bop B t = 34 ∨ bop B t = 35 ∨ bop B t = 36 ∨ bop B t = 37 ∨ bop B t = 38 ∨ bop B t = 39 ∨ bop B t = 40 ∨ bop B t = 41 ∨ bop B t = 42 ∨ bop B t = 43 ∨ bop B t = 44 ∨ bop B t = 45 ∨ bop B t = 46 := by omega
  rcases hz with z | z | z | z | z | z | z | z | z | z | z | z | z | z | z | z | z | z | z | z | z | z | z | z | z | z | z | z | z | z | z | z | z | z | z | z | z
  · rw [ap_10 z, ap_10 z, h0]
  · rw [ap_11 z, ap_11 z, h0]
  · rw [ap_12 z, ap_12 z, h0]
  · rw [ap_13 z, ap_13 z, h0]
  · rw [ap_14 z, ap_14 z]
    exact foldA_cg _ (fun i hi => h i (by omega))
  · rw [ap_15 z, ap_15 z]
    exact foldA_cg _ (fun i hi => h i (by omega))
  · rw [ap_16 z, ap_16 z]
    exact foldA_cg _ (fun i hi => h i (by omega))
  · rw [ap_17 z, ap_17 z]
    exact implA_cg _ (fun i hi => h _ (by omega))
  · have y := ty_18 ty z
    rw [ap_18 z, ap_18 z, h0, h 1 (by omega), h 2 (by omega)]
  · rw [ap_19 z, ap_19 z]
    exact bit_cg ⟨fun q i hi => by rw [← h _ hi, ← h i (by omega)]; exact q i hi, fun q i hi => by rw [h _ hi, h i (by omega)]; exact q i hi⟩
  · rw [ap_20 z, ap_20 z]
    exact bit_cg ⟨fun q i hi j hj => by rw [← h i hi, ← h j (by omega)]; exact q i hi j hj, fun q i hi j hj => by rw [h i hi, h j (by omega)]; exact q i hi j hj⟩
  · rw [ap_21 z, ap_21 z, h0]
  · rw [ap_22 z, ap_22 z, h0]
  · rw [ap_23 z, ap_23 z]
    exact foldA_cg _ (fun i hi => h i (by omega))
  · rw [ap_24 z, ap_24 z]
    exact foldA_cg _ (fun i hi => h i (by omega))
  · rw [ap_25 z, ap_25 z]
    exact foldA_cg _ (fun i hi => h i (by omega))
  · rw [ap_26 z, ap_26 z]
    exact foldA_cg _ (fun i hi => h i (by omega))
  · rw [ap_27 z, ap_27 z]
    exact foldA_cg _ (fun i hi => h i (by omega))
  · have y := ty_28 ty z
    rw [ap_28 z, ap_28 z, h0, h 1 (by omega)]
  · have y := ty_29 ty z
    rw [ap_29 z, ap_29 z, h0, h 1 (by omega)]
  · have y := ty_30 ty z
    rw [ap_30 z, ap_30 z, h0, h 1 (by omega)]
  · have y := ty_31 ty z
    rw [ap_31 z, ap_31 z, h0, h 1 (by omega)]
  · have y := ty_32 ty z
    rw [ap_32 z, ap_32 z, h0, h 1 (by omega)]
  · have y := ty_33 ty z
    rw [ap_33 z, ap_33 z, h0, h 1 (by omega)]
  · have y := ty_34 ty z
    rw [ap_34 z, ap_34 z, h0, h 1 (by omega)]
  · have y := ty_35 ty z
    rw [ap_35 z, ap_35 z, h0, h 1 (by omega)]
  · have y := ty_36 ty z
    rw [ap_36 z, ap_36 z, h0, h 1 (by omega)]
  · have y := ty_37 ty z
    rw [ap_37 z, ap_37 z, h0, h 1 (by omega)]
  · have y := ty_38 ty z
    rw [ap_38 z, ap_38 z, h0, h 1 (by omega)]
  · have y := ty_39 ty z
    rw [ap_39 z, ap_39 z, h0, h 1 (by omega)]
  · have y := ty_40 ty z
    rw [ap_40 z, ap_40 z, h0, h 1 (by omega)]
  · have y := ty_41 ty z
    rw [ap_41 z, ap_41 z, h0, h 1 (by omega)]
  · have y := ty_42 ty z
    rw [ap_42 z, ap_42 z, h0, h 1 (by omega)]
  · have y := ty_43 ty z
    rw [ap_43 z, ap_43 z, h0, h 1 (by omega)]
  · rw [ap_44 z, ap_44 z]
    exact catA_cg _ (fun i hi => h i hi)
  · have y := ty_45 ty z
    rw [ap_45 z, ap_45 z, h0, h 1 (by omega)]
  · have y := ty_46 ty z
    rw [ap_46 z, ap_46 z, h0, h 1 (by omega), h 2 (by omega)]
theorem ev_cg (w : wfB B) (ht : t < bma B) (n7 : bop B t ≠ 47) (h : ∀ i, bfi B t ≤ i → i < bfi B (t + 1) → ev B J (bar B i) = ev B J' (bar B i)) : ev B J t = ev B J' t := by
  by_cases n8 : bop B t = 48
  · rw [ev_eq, ev_eq]
    unfold stp
    rw [if_neg n7, if_neg n7, if_pos n8, if_pos n8]
  · rw [ev_ap w ht n7 n8, ev_ap w ht n7 n8, appl_cg w ht n7 n8 (fun i hi => ?_)]
    rw [evL_ar w ht hi, evL_ar w ht hi]
    exact h _ (by omega) (by omega)
/-- D t: the bits of the interpretation on which t depends -/
def depOK (B : Bk) (D : Nat → Nat) (t : Nat) : Prop := D t < 2 ^ bsz B ∧ ∀ J J', (∀ i, (D t).testBit i = true → J.testBit i = J'.testBit i) → ev B J t = ev B J' t
theorem s_findDep (h : RC B σ) (w : wfB B) (hS : bsz B ≤ 16) (hs : xi σ 30 15 = nI (bsz B))
    (k : ∀ σ' D, onlyI 31 σ σ' → (∀ t, t < bma B → xi σ' 31 t = nI (D t) ∧ depOK B D t) → Q (.inl none) σ') : wp_Search_findDependencies Q σ := by
  have hm := wf_ma w
  have p16 : 2 ^ bsz B ≤ 65536 := Nat.pow_le_pow_right (n := 2) (by decide) hS
  unfold wp_Search_findDependencies
  have key := loop_i (σ := xS) (fun n i s => w_Search_findDependencies_2 Q n (nI i) s) (fun i s => onlyI 31 σ s ∧ ∃ D, ∀ t, t < i → xi s 31 t = nI (D t) ∧ depOK B D t) (bma B) (fun n s hI => ?_) (fun n i s hi hI hs2 => ?_)
  · exact ⟨_, key (bma B + 1) 0 σ (by omega) (by omega) ⟨onlyI.refl _ _, fun _ => 0, fun t ht => absurd ht (by omega)⟩⟩
  · unfold w_Search_findDependencies_2
    obtain ⟨h1, D, h2⟩ := hI
    have r := h1.rc (by decide) h
    simp (disch := omega) only [i32_lit, l64_lit, lc_eq, lc_ge, lc_le, lc_gt, lc_lt, jL_inj, jL_add, jL_sub, jL_mul, jL_neg, jL_and, jL_or, jL_xor, jL_mone, BitVec.xor_allOnes, nI_clamp, nI_ltI, nI_leI, nI_eq, nI_1, nI_add, nI_sub, nI_addm, nI_mul, vp_in_n, xi_pi, xi_pl, xl_pi, xl_pl, xb_pi, xb_pl, xqi_i, xql_l, xqv_v, xqi_e, xql_e, xqv_e, forall_eq, true_and, and_true, r.1.1]
    exact ⟨fun _ => k s D h1 h2, fun z => absurd (Nat.le_refl _) z⟩
  · obtain ⟨h1, D, h2⟩ := hI
    have r := h1.rc (by decide) h
    obtain ⟨f1, f2, f3⟩ := wf_fi w hi
    have hop := typ_op (wf_ty w hi)
    have ss : xi s 30 15 = nI (bsz B) := (h1.1 30 15 (by decide)).trans hs
    have go : ∀ a0 : Nat, a0 < 2 ^ bsz B → (bop B i = 47 → ∀ J J', (∀ m, a0.testBit m = true → J.testBit m = J'.testBit m) → ev B J i = ev B J' i) → w_Search_findDependencies_61 Q (w_Search_findDependencies_2 Q n) (nI i) (nI a0) s := by
      intro a0 l0 e0
      unfold w_Search_findDependencies_61
      simp (disch := omega) only [i32_lit, l64_lit, lc_eq, lc_ge, lc_le, lc_gt, lc_lt, jL_inj, jL_add, jL_sub, jL_mul, jL_neg, jL_and, jL_or, jL_xor, jL_mone, BitVec.xor_allOnes, nI_clamp, nI_ltI, nI_leI, nI_eq, nI_1, nI_add, nI_sub, nI_addm, nI_mul, vp_in_n, xi_pi, xi_pl, xl_pi, xl_pl, xb_pi, xb_pl, xqi_i, xql_l, xqv_v, xqi_e, xql_e, xqv_e, forall_eq, true_and, and_true, rc_fi r]
      have key2 := loop_i (σ := Nat) (fun m j a => w_Search_findDependencies_71 Q (w_Search_findDependencies_2 Q n) m (nI i) (nI a) (nI j) s) (fun j a => bfi B i ≤ j ∧ a < 2 ^ bsz B ∧ (∀ m, a0.testBit m = true → a.testBit m = true) ∧ ∀ p, bfi B i ≤ p → p < j → ∀ m, (D (bar B p)).testBit m = true → a.testBit m = true) (bfi B (i + 1)) (fun m a hO => ?_) (fun m j a hj hO hs3 => ?_)
      · exact ⟨_, key2 (bfi B (i + 1) - bfi B i + 1) (bfi B i) a0 (by omega) (by omega) ⟨Nat.le_refl _, l0, fun _ q => q, fun p p1 p2 => absurd p2 (by omega)⟩⟩
      · obtain ⟨q0, q1, q2, q3⟩ := hO
        unfold w_Search_findDependencies_71
        simp (disch := omega) only [i32_lit, l64_lit, lc_eq, lc_ge, lc_le, lc_gt, lc_lt, jL_inj, jL_add, jL_sub, jL_mul, jL_neg, jL_and, jL_or, jL_xor, jL_mone, BitVec.xor_allOnes, nI_clamp, nI_ltI, nI_leI, nI_eq, nI_1, nI_add, nI_sub, nI_addm, nI_mul, vp_in_n, xi_pi, xi_pl, xl_pi, xl_pl, xb_pi, xb_pl, xqi_i, xql_l, xqv_v, xqi_e, xql_e, xqv_e, forall_eq, true_and, and_true, rc_fi r]
        refine ⟨fun _ => hs2 (xpi s 31 i (nI a)) ⟨h1.trans (onlyI.pi _ _ _ _), fun b => if b = i then a else D b, fun b hb => ?_⟩, fun z => absurd (Nat.le_refl _) z⟩
        rw [xi_pi]
        by_cases e : b = i
        · rw [if_pos ⟨rfl, e⟩]
          unfold depOK
          simp only [if_pos e]
          refine ⟨trivial, q1, fun J J' hJ => ?_⟩
          rw [e]
          by_cases h7 : bop B i = 47
          · exact e0 h7 J J' (fun m hm => hJ m (q2 m hm))
          · refine ev_cg w hi h7 (fun p p1 p2 => ?_)
            have := wf_ar w hi p1 p2
            exact (h2 (bar B p) this).2.2 J J' (fun m hm => hJ m (q3 p p1 p2 m hm))
        · rw [if_neg (fun z => e z.2)]
          unfold depOK
          simp only [if_neg e]
          exact h2 b (by omega)
      · obtain ⟨q0, q1, q2, q3⟩ := hO
        unfold w_Search_findDependencies_71
        have jl := wf_ar w hi q0 hj
        have dl := (h2 (bar B j) jl).2.1
        simp (disch := omega) only [i32_lit, l64_lit, lc_eq, lc_ge, lc_le, lc_gt, lc_lt, jL_inj, jL_add, jL_sub, jL_mul, jL_neg, jL_and, jL_or, jL_xor, jL_mone, BitVec.xor_allOnes, nI_clamp, nI_ltI, nI_leI, nI_eq, nI_1, nI_add, nI_sub, nI_addm, nI_mul, vp_in_n, xi_pi, xi_pl, xl_pi, xl_pl, xb_pi, xb_pl, xqi_i, xql_l, xqv_v, xqi_e, xql_e, xqv_e, forall_eq, true_and, and_true, rc_fi r, rc_ar r, (h2 (bar B j) jl).1, nI_or]
        refine ⟨fun z => absurd z (by omega), fun _ => hs3 _ ⟨by omega, Nat.or_lt_two_pow q1 dl, fun m hm => by rw [Nat.testBit_or, q2 m hm]; rfl, fun p p1 p2 m hm => ?_⟩⟩
        rw [Nat.testBit_or]
        by_cases e : p = j
        · rw [e] at hm; rw [hm, Bool.or_true]
        · rw [q3 p p1 (by omega) m hm]; rfl
    unfold w_Search_findDependencies_2
    simp (disch := omega) only [i32_lit, l64_lit, lc_eq, lc_ge, lc_le, lc_gt, lc_lt, jL_inj, jL_add, jL_sub, jL_mul, jL_neg, jL_and, jL_or, jL_xor, jL_mone, BitVec.xor_allOnes, nI_clamp, nI_ltI, nI_leI, nI_eq, nI_1, nI_add, nI_sub, nI_addm, nI_mul, vp_in_n, xi_pi, xi_pl, xl_pi, xl_pl, xb_pi, xb_pl, xqi_i, xql_l, xqv_v, xqi_e, xql_e, xqv_e, forall_eq, true_and, and_true, r.1.1, rc_op r]
    refine ⟨fun z => absurd z (by omega), fun _ => ⟨fun h7 => go 0 (Nat.two_pow_pos _) (fun q => absurd q h7), fun h7 => ?_⟩⟩
    obtain ⟨y1, y2⟩ := th_of w hi h7
    have yt := wf_th w y1
    have b1 := be_sz w (show blo B i + 1 ≤ bth B by omega)
    have ht5 : bth B ≤ 500 := w.1.2.2.2.1
    rw [y2] at yt
    simp (disch := omega) only [i32_lit, l64_lit, lc_eq, lc_ge, lc_le, lc_gt, lc_lt, jL_inj, jL_add, jL_sub, jL_mul, jL_neg, jL_and, jL_or, jL_xor, jL_mone, BitVec.xor_allOnes, nI_clamp, nI_ltI, nI_leI, nI_eq, nI_1, nI_add, nI_sub, nI_addm, nI_mul, vp_in_n, xi_pi, xi_pl, xl_pi, xl_pl, xb_pi, xb_pl, xqi_i, xql_l, xqv_v, xqi_e, xql_e, xqv_e, forall_eq, true_and, and_true, rc_lo r, ss]
    unfold wp_Book_shift
    simp (disch := omega) only [i32_lit, l64_lit, lc_eq, lc_ge, lc_le, lc_gt, lc_lt, jL_inj, jL_add, jL_sub, jL_mul, jL_neg, jL_and, jL_or, jL_xor, jL_mone, BitVec.xor_allOnes, nI_clamp, nI_ltI, nI_leI, nI_eq, nI_1, nI_add, nI_sub, nI_addm, nI_mul, vp_in_n, xi_pi, xi_pl, xl_pi, xl_pl, xb_pi, xb_pl, xqi_i, xql_l, xqv_v, xqi_e, xql_e, xqv_e, forall_eq, true_and, and_true, rc_be r, rc_fu r, jL_l2i, nI_shl]
    have sz : szs (bso B i) ≤ 16 := by omega
    have fb : bful B i = bm (szs (bso B i)) := by unfold bful; rw [Nat.min_eq_right (by omega)]
    have fn : (bful B i).toNat = 2 ^ szs (bso B i) - 1 := by rw [fb, bm_nat (by omega)]
    rw [fn]
    refine go _ ?_ (fun _ J J' hJ => ?_)
    · have h3 : 2 ^ szs (bso B i) * 2 ^ (bsz B - bbe B (blo B i + 1)) ≤ 2 ^ bsz B := by rw [← Nat.pow_add]; exact Nat.pow_le_pow_right (by decide) (by omega)
      have h4 := Nat.two_pow_pos (bsz B - bbe B (blo B i + 1))
      have h5 := Nat.two_pow_pos (szs (bso B i))
      refine Nat.lt_of_lt_of_le ((Nat.mul_lt_mul_right h4).mpr ?_) h3
      omega
    · have e1 := ev_th (J := J) w y1
      have e2 := ev_th (J := J') w y1
      rw [y2] at e1 e2
      rw [e1, e2]
      apply BitVec.eq_of_getLsbD_eq
      intro m hm2
      rw [BitVec.getLsbD_and, BitVec.getLsbD_and, BitVec.getLsbD_ushiftRight, BitVec.getLsbD_ushiftRight, BitVec.getLsbD_ofNat, BitVec.getLsbD_ofNat, fb, bm_bit]
      by_cases e : m < szs (bso B i)
      · have := hJ (bsz B - bbe B (blo B i + 1) + m) (by
          rw [Nat.testBit_mul_two_pow, Nat.testBit_two_pow_sub_one]
          simp
          omega)
        rw [this]
      · simp [e]
end DEP
