section LRN2
variable {B : Bk} {σ : xS} {Q : xO → xS → Prop} {t mk li J : Nat} {A : Nat → BitVec 64} {bits : BitVec 64}
theorem ex_bit {x : BitVec 64} (h : x ≠ 0#64) : ∃ j, j < 64 ∧ x.getLsbD j = true := by
  obtain ⟨j, h1, h2, -⟩ := ex_high h
  exact ⟨j, h1, h2⟩
theorem low_one {x : BitVec 64} (h : x ≠ 0#64) : x &&& -x ≠ 0#64 := by
  intro e
  obtain ⟨j, h1, h2, h3, -⟩ := lrun_spec (~~~x)
  have e1 : lrun (~~~x) = (x &&& -x) - 1#64 := by
    unfold lrun
    rw [BitVec.not_not, BitVec.neg_eq_not_add x]
  rw [e1, e] at h2
  have j64 : j = 64 := bm_inj h1 (Nat.le_refl _) (by rw [← h2]; decide)
  apply h
  apply BitVec.eq_of_getLsbD_eq
  intro i hi
  have := h3 i (by omega)
  rw [BitVec.getLsbD_not, Bool.and_eq_true] at this
  rw [BitVec.getLsbD_zero]
  cases q : x.getLsbD i with
  | false => rfl
  | true => rw [q] at this; exact absurd this.2 (by decide)
theorem high_one {x : BitVec 64} (h : x ≠ 0#64) : upT x ^^^ (upT x >>> 1) ≠ 0#64 ∧ sbs (upT x ^^^ (upT x >>> 1)) x := by
  obtain ⟨j, h1, h2, h3⟩ := ex_high h
  have nu : ∀ i, j < i → (upT x).getLsbD i = false := fun i hi => by
    cases q : (upT x).getLsbD i with
    | false => rfl
    | true =>
      obtain ⟨m, m1, m2⟩ := upT_bit.mp q
      rw [h3 m (by omega)] at m2
      cases m2
  constructor
  · intro e
    have := congrArg (fun z => z.getLsbD j) e
    simp only [BitVec.getLsbD_xor, BitVec.getLsbD_ushiftRight, upT_all h2 (Nat.le_refl j), nu (1 + j) (by omega)] at this
    simp at this
  · refine sbs.of fun i hi hb => ?_
    rw [BitVec.getLsbD_xor, BitVec.getLsbD_ushiftRight] at hb
    rcases Nat.lt_trichotomy i j with q | q | q
    · rw [upT_all h2 (by omega), upT_all h2 (by omega)] at hb
      cases hb
    · rw [q]; exact h2
    · rw [nu i q, nu (1 + i) (by omega)] at hb
      cases hb
theorem l_two {p q : Nat} {one : BitVec 64} (L : lnS B li σ A mk) (w : wfB B) (hS : bsz B ≤ 16) (ht : t < bma B) (hl : t ≤ li) (p1 : bfi B t ≤ p) (p2 : p < bfi B (t + 1)) (q1 : bfi B t ≤ q) (q2 : q < bfi B (t + 1)) (bp : sbs one (bful B (bar B p))) (bq : sbs one (bful B (bar B q)))
    (k : fin B li t σ A Q (fun A' => sbs one (A' (bar B p)) ∧ sbs one (A' (bar B q)))) : w_Learner_explainDifference_58 Q (nI (bar B p)) (nI (bar B q)) (jL one) σ := by
  unfold w_Learner_explainDifference_58
  refine l_ask L w hS ht p1 p2 hl bp (fun σ1 A1 mk1 o1 L1 g1 s1 => ?_)
  rw [xqv_v]
  refine l_ask L1 w hS ht q1 q2 hl bq (fun σ2 A2 mk2 o2 L2 g2 s2 => ?_)
  rw [xqv_v]
  exact k σ2 A2 mk2 (o1.trans o2) L2 (g1.trans g2) ⟨s1.trans (g2.1 _), s2⟩
theorem l_difference {p q : Nat} (L : lnS B li σ A mk) (w : wfB B) (hS : bsz B ≤ 16) (ht : t < bma B) (hl : t ≤ li) (W : wrt B J σ t) (p1 : bfi B t ≤ p) (p2 : p < bfi B (t + 1)) (q1 : bfi B t ≤ q) (q2 : q < bfi B (t + 1)) (hs : bso B (bar B p) = bso B (bar B q)) (hne : ev B J (bar B p) ≠ ev B J (bar B q))
    (k : fin B li t σ A Q (fun A' => difB A' (ev B J) (bar B p) (bar B q))) : wp_Learner_explainDifference Q σ (nI (bar B p)) (nI (bar B q)) := by
  have hm := wf_ma w
  have lp := wf_ar w ht p1 p2
  have lq := wf_ar w ht q1 q2
  unfold wp_Learner_explainDifference
  simp (disch := omega) only [i32_lit, l64_lit, lc_eq, lc_ge, lc_le, lc_gt, lc_lt, jL_inj, jL_add, jL_sub, jL_mul, jL_neg, jL_and, jL_or, jL_xor, jL_mone, BitVec.xor_allOnes, nI_clamp, nI_ltI, nI_leI, nI_eq, nI_1, nI_add, nI_sub, nI_addm, nI_mul, vp_in_n, xi_pi, xi_pl, xl_pi, xl_pl, xb_pi, xb_pl, xqi_i, xql_l, xqv_v, xqi_e, xql_e, xqv_e, forall_eq, true_and, and_true, W.2 p p1 p2, W.2 q q1 q2]
  refine p_upTo ?_
  rw [xql_l]
  have d0 : ev B J (bar B p) ^^^ ev B J (bar B q) ≠ 0#64 := fun e => hne (by
    apply BitVec.eq_of_getLsbD_eq
    intro i hi
    have := congrArg (fun z => z.getLsbD i) e
    simp only [BitVec.getLsbD_xor, BitVec.getLsbD_zero] at this
    revert this
    cases (ev B J (bar B p)).getLsbD i <;> cases (ev B J (bar B q)).getLsbD i <;> simp)
  have dp : sbs (ev B J (bar B p) ^^^ ev B J (bar B q)) (bful B (bar B p)) := sbs.of fun i hi hb => by
    rw [BitVec.getLsbD_xor] at hb
    cases c : (ev B J (bar B p)).getLsbD i with
    | true => exact (ev_arg w ht p1 p2).b c
    | false =>
      rw [c, Bool.false_xor] at hb
      rw [bful_eq hs]
      exact (ev_arg w ht q1 q2).b hb
  have go : ∀ one : BitVec 64, one ≠ 0#64 → sbs one (ev B J (bar B p) ^^^ ev B J (bar B q)) → w_Learner_explainDifference_58 Q (nI (bar B p)) (nI (bar B q)) (jL one) σ := by
    intro one h1 h2
    refine l_two L w hS ht hl p1 p2 q1 q2 (h2.trans dp) (by rw [← bful_eq hs]; exact h2.trans dp) (fun σ' A' mk' o' L' g' s' => k σ' A' mk' o' L' g' ?_)
    obtain ⟨j, j1, j2⟩ := ex_bit h1
    refine ⟨j, s'.1.b j2, s'.2.b j2, ?_⟩
    have := h2.b j2
    rw [BitVec.getLsbD_xor] at this
    intro c
    rw [c, Bool.xor_self] at this
    cases this
  have lo : w_Learner_explainDifference_44 Q (nI (bar B p)) (nI (bar B q)) (jL (ev B J (bar B p) ^^^ ev B J (bar B q))) σ := by
    unfold w_Learner_explainDifference_44
    simp (disch := omega) only [i32_lit, l64_lit, lc_eq, lc_ge, lc_le, lc_gt, lc_lt, jL_inj, jL_add, jL_sub, jL_mul, jL_neg, jL_and, jL_or, jL_xor, jL_mone, BitVec.xor_allOnes, nI_clamp, nI_ltI, nI_leI, nI_eq, nI_1, nI_add, nI_sub, nI_addm, nI_mul, vp_in_n, xi_pi, xi_pl, xl_pi, xl_pl, xb_pi, xb_pl, xqi_i, xql_l, xqv_v, xqi_e, xql_e, xqv_e, forall_eq, true_and, and_true]
    exact go _ (low_one d0) ((sbs.refl _).andl _)
  refine ⟨fun _ => lo, fun _ => ⟨fun _ => ?_, fun _ => lo⟩⟩
  rw [jL_ushr _ (show 1 < 64 by decide), jL_xor]
  exact go _ (high_one d0).1 (high_one d0).2
theorem l_equal (L : lnS B li σ A mk) (w : wfB B) (hS : bsz B ≤ 16) (ht : t < bma B) (hl : t ≤ li) (W : wrt B J σ t) (z : bop B t = 19) (k : fin B li t σ A Q (fun A' => stOK B J A' t)) : wp_Learner_explainEqual Q σ (nI t) (nI (bar B (bfi B t))) := by
  have hm := wf_ma w
  obtain ⟨f1, f2, f3⟩ := wf_fi w ht
  have y := ty_19 (wf_ty w ht) z
  have ys : ∀ i, bfi B t ≤ i → i < bfi B (t + 1) → bso B (bar B i) = bso B (bar B (bfi B t)) := fun i i1 i2 => by
    have := y.2.1 (i - bfi B t) (by omega)
    rw [show bfi B t + (i - bfi B t) = i by omega] at this
    exact this
  have l0 := wf_ar w ht (Nat.le_refl _) (show bfi B t < bfi B (t + 1) by omega)
  have vt : ev B J t = bit (∀ i, i + 1 < (bfi B (t + 1) - bfi B t) → evL B J t (bar B (bfi B t + (i + 1))) = evL B J t (bar B (bfi B t + i))) &&& 1#64 := by rw [ev_ap w ht (by omega) (by omega), ap_19 z, bful_0 y.2.2]
  unfold wp_Learner_explainEqual
  simp (disch := omega) only [i32_lit, l64_lit, lc_eq, lc_ge, lc_le, lc_gt, lc_lt, jL_inj, jL_add, jL_sub, jL_mul, jL_neg, jL_and, jL_or, jL_xor, jL_mone, BitVec.xor_allOnes, nI_clamp, nI_ltI, nI_leI, nI_eq, nI_1, nI_add, nI_sub, nI_addm, nI_mul, vp_in_n, xi_pi, xi_pl, xl_pi, xl_pl, xb_pi, xb_pl, xqi_i, xql_l, xqv_v, xqi_e, xql_e, xqv_e, forall_eq, true_and, and_true, W.1, rc_fi L.1, rc_fu L.1]
  refine ⟨fun e0 => ?_, fun e0 => ?_⟩
  · have key := loop_i (σ := Unit) (fun n i _ => w_Learner_explainEqual_38 Q n (nI t) (nI (bar B (bfi B t))) (nI i) σ) (fun i _ => bfi B t + 1 ≤ i ∧ ∀ j, bfi B t ≤ j → j < i → ev B J (bar B j) = ev B J (bar B (bfi B t))) (bfi B (t + 1)) (fun n _ hI => ?_) (fun n i _ hi hI hs => ?_)
    · exact ⟨_, key (bfi B (t + 1) - bfi B t + 1) (bfi B t + 1) () (by omega) (by omega) ⟨Nat.le_refl _, fun j j1 j2 => by rw [show j = bfi B t by omega]⟩⟩
    · exfalso
      have : ev B J t = 1#64 := by
        rw [vt, bit_t]
        · decide
        · intro i hi
          rw [evL_ar w ht (by omega), evL_ar w ht (by omega), hI.2 (bfi B t + (i + 1)) (by omega) (by omega), hI.2 (bfi B t + i) (by omega) (by omega)]
      rw [this] at e0
      exact absurd e0 (by decide)
    · unfold w_Learner_explainEqual_38
      have il := wf_ar w ht (show bfi B t ≤ i by omega) hi
      simp (disch := omega) only [i32_lit, l64_lit, lc_eq, lc_ge, lc_le, lc_gt, lc_lt, jL_inj, jL_add, jL_sub, jL_mul, jL_neg, jL_and, jL_or, jL_xor, jL_mone, BitVec.xor_allOnes, nI_clamp, nI_ltI, nI_leI, nI_eq, nI_1, nI_add, nI_sub, nI_addm, nI_mul, vp_in_n, xi_pi, xi_pl, xl_pi, xl_pl, xb_pi, xb_pl, xqi_i, xql_l, xqv_v, xqi_e, xql_e, xqv_e, forall_eq, true_and, and_true, rc_fi L.1, rc_ar L.1, W.2 i (by omega) hi, W.2 (bfi B t) (Nat.le_refl _) (by omega)]
      refine ⟨fun q => absurd q (by omega), fun _ => ⟨fun e => hs () ⟨by omega, fun j j1 j2 => ?_⟩, fun e => ?_⟩⟩
      · by_cases c : j = i
        · rw [c]; exact e
        · exact hI.2 j j1 (by omega)
      · refine l_difference L w hS ht hl W (Nat.le_refl _) (by omega) (show bfi B t ≤ i by omega) hi (ys i (by omega) hi).symm (fun n => e n.symm) (fun σ' A' mk' o' L' g' s' => ?_)
        rw [xqv_v]
        refine k σ' A' mk' o' L' g' (st_eq w ht (L'.2.2.2.2.2.2 t ht) z (Or.inr ⟨i - bfi B t - 1, by omega, ?_⟩))
        rw [show bfi B t + (i - bfi B t - 1 + 1) = i by omega]
        exact s'
  · refine l_askAll L w hS ht hl (fun i i1 i2 => by rw [bful_eq (ys i i1 i2)]; exact sbs.refl _) (fun σ' A' mk' o' L' g' s' => ?_)
    rw [xqv_v]
    refine k σ' A' mk' o' L' g' (st_eq w ht (L'.2.2.2.2.2.2 t ht) z (Or.inl ⟨?_, fun i hi => by rw [bful_eq (y.2.1 i hi)]; exact s' (bfi B t + i) (by omega) (by omega)⟩))
    have P : ∀ i, i + 1 < (bfi B (t + 1) - bfi B t) → evL B J t (bar B (bfi B t + (i + 1))) = evL B J t (bar B (bfi B t + i)) := by
      apply Classical.byContradiction
      intro n
      rw [vt, bit_f n] at e0
      exact e0 (by decide)
    intro i
    induction i with
    | zero => intro _; rfl
    | succ i ih =>
      intro hi
      have := P i hi
      rw [evL_ar w ht (by omega), evL_ar w ht (by omega)] at this
      rw [this, ih (by omega)]
end LRN2
