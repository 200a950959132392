section ST2
variable {B : Bk} {t J : Nat} {A : Nat → BitVec 64}
theorem one_bit {x : BitVec 64} (h : sbs x 1#64) {j : Nat} (hb : x.getLsbD j = true) : j = 0 := by
  have := h.b hb
  rw [show (1#64) = bm 1 from rfl, bm_bit] at this
  simp at this
  omega
theorem st_impl (w : wfB B) (ht : t < bma B) (hf : sbs (A t) (bful B t)) (z : bop B t = 17)
    (h : (ev B J t = 0#64 ∧ ∀ i, i < bfi B (t + 1) - bfi B t → sbs 1#64 (A (bar B (bfi B t + i)))) ∨ ∃ i, i < bfi B (t + 1) - bfi B t ∧ sbs 1#64 (A (bar B (bfi B t + i))) ∧ ev B J (bar B (bfi B t + i)) = (if i + 1 = bfi B (t + 1) - bfi B t then 1#64 else 0#64)) : stOK B J A t := by
  intro kn on hA
  have y := ty_17 (wf_ty w ht) z
  rw [bful_0 y.2.2] at hf
  rw [ck_17 z, bful_0 y.2.2]
  have b1 : (1#64).getLsbD 0 = true := by decide
  refine sbs.of fun j hj hb => ?_
  have e0 := one_bit hf hb
  subst e0
  rw [BitVec.getLsbD_or, Bool.or_eq_true]
  rcases h with ⟨h1, h2⟩ | ⟨i, h1, h2, h3⟩
  · right
    rw [orK_2 hj]
    refine ⟨b1, fun i hi => ?_⟩
    have q2 := sbs.b (hA i hi).2 ((h2 i hi).b b1)
    refine ⟨q2, ?_⟩
    have q3 := ag_bit (hA i hi).1.1 q2
    have hv : ¬ (implA (fun i => evL B J t (bar B (bfi B t + (bfi B (t + 1) - bfi B t - 1 - i)))) (bfi B (t + 1) - bfi B t - 1)).getLsbD 0 = true := by
      intro q4
      have : ev B J t = _ := ev_ap w ht (by omega) (by omega)
      rw [h1, ap_17 z, bful_0 y.2.2] at this
      have h5 := congrArg (fun x => x.getLsbD 0) this
      rw [BitVec.getLsbD_and, q4] at h5
      revert h5
      decide
    rw [impl_bit (by decide)] at hv
    unfold tnI
    by_cases e : i + 1 < bfi B (t + 1) - bfi B t
    · rw [if_pos e, BitVec.getLsbD_xor, q2, q3]
      cases hq : (ev B J (bar B (bfi B t + i))).getLsbD 0 with
      | true => rfl
      | false =>
        refine absurd (Or.inr ⟨bfi B (t + 1) - bfi B t - 1 - i, by omega, by omega, ?_⟩) hv
        show (evL B J t (bar B (bfi B t + (bfi B (t + 1) - bfi B t - 1 - (bfi B (t + 1) - bfi B t - 1 - i))))).getLsbD 0 = false
        rw [show bfi B (t + 1) - bfi B t - 1 - (bfi B (t + 1) - bfi B t - 1 - i) = i by omega, evL_ar w ht hi]
        exact hq
    · rw [if_neg e, BitVec.xor_zero, q3]
      cases hq : (ev B J (bar B (bfi B t + i))).getLsbD 0 with
      | false => rfl
      | true =>
        refine absurd (Or.inl ?_) hv
        show (evL B J t (bar B (bfi B t + (bfi B (t + 1) - bfi B t - 1 - 0)))).getLsbD 0 = true
        rw [show bfi B (t + 1) - bfi B t - 1 - 0 = i by omega, evL_ar w ht hi]
        exact hq
  · left
    rw [orK_1]
    have q2 := sbs.b (hA i h1).2 (h2.b b1)
    have q3 := ag_bit (hA i h1).1.1 q2
    refine ⟨i, h1, ?_⟩
    unfold tnI
    by_cases e : i + 1 < bfi B (t + 1) - bfi B t
    · rw [if_pos e, BitVec.getLsbD_xor, q2, q3, h3, if_neg (by omega)]; rfl
    · rw [if_neg e, BitVec.xor_zero, q3, h3, if_pos (by omega)]; rfl
theorem ei_t1 {r : Bool × Bool} (h : r.1 = true ∨ r.2 = true) : (eiK r).1 = 1#64 := by
  unfold eiK
  rcases h with h | h
  · simp [h]
  · simp [h]
/-- one bit by which both differ -/
def difB (A : Nat → BitVec 64) (v : Nat → BitVec 64) (a b : Nat) : Prop := ∃ j, (A a).getLsbD j = true ∧ (A b).getLsbD j = true ∧ (v a).getLsbD j ≠ (v b).getLsbD j
theorem dif_ot {kn on : Nat → BitVec 64} {a b : Nat} (ha : arOk B (ev B J) kn on a ∧ sbs (A a) (kn a)) (hb : arOk B (ev B J) kn on b ∧ sbs (A b) (kn b)) (h : difB A (ev B J) a b) : sOt (kn a) (kn b) (on a) (on b) = true := by
  obtain ⟨j, h1, h2, h3⟩ := h
  have q1 := ha.2.b h1
  have q2 := hb.2.b h2
  unfold sOt
  refine decide_eq_true (fun q => ?_)
  have := congrArg (fun x => x.getLsbD j) q
  simp only [BitVec.getLsbD_and, BitVec.getLsbD_xor, q1, q2, ag_bit ha.1.1 q1, ag_bit hb.1.1 q2, BitVec.getLsbD_zero, Bool.and_self, Bool.true_and] at this
  revert this h3
  cases (ev B J a).getLsbD j <;> cases (ev B J b).getLsbD j <;> simp
theorem ful_sa {kn on : Nat → BitVec 64} {a b : Nat} (ha : arOk B (ev B J) kn on a ∧ sbs (A a) (kn a)) (hb : arOk B (ev B J) kn on b ∧ sbs (A b) (kn b)) (f1 : sbs (bful B a) (A a)) (f2 : sbs (bful B b) (A b)) (h : ev B J a = ev B J b) : sSa B kn on a b = true := by
  have e1 := kn_full ha.1 ha.2 f1
  have e2 := kn_full hb.1 hb.2 f2
  unfold sSa
  rw [decide_eq_true e1, decide_eq_true e2, ag_all ha.1.1 e1 ha.1.2.2, ag_all hb.1.1 e2 hb.1.2.2, decide_eq_true h]
  rfl
theorem st_eq (w : wfB B) (ht : t < bma B) (hf : sbs (A t) (bful B t)) (z : bop B t = 19)
    (h : ((∀ i, i < bfi B (t + 1) - bfi B t → ev B J (bar B (bfi B t + i)) = ev B J (bar B (bfi B t))) ∧ ∀ i, i < bfi B (t + 1) - bfi B t → sbs (bful B (bar B (bfi B t + i))) (A (bar B (bfi B t + i)))) ∨ ∃ i, i + 1 < bfi B (t + 1) - bfi B t ∧ difB A (ev B J) (bar B (bfi B t)) (bar B (bfi B t + (i + 1)))) : stOK B J A t := by
  intro kn on hA
  have y := ty_19 (wf_ty w ht) z
  have a0 : arOk B (ev B J) kn on (bar B (bfi B t)) ∧ sbs (A (bar B (bfi B t))) (kn (bar B (bfi B t))) := hA 0 (by omega)
  rw [bful_0 y.2.2] at hf
  rw [ck_19 z, ei_t1]
  · exact hf
  · rcases h with ⟨h1, h2⟩ | ⟨i, h1, h2⟩
    · left
      rw [eqK_1]
      exact fun i hi => ful_sa a0 (hA (i + 1) (by omega)) (h2 0 (by omega)) (h2 (i + 1) (by omega)) (h1 (i + 1) (by omega)).symm
    · right
      rw [eqK_2]
      exact ⟨i, by omega, dif_ot a0 (hA (i + 1) (by omega)) h2⟩
theorem st_ds (w : wfB B) (ht : t < bma B) (hf : sbs (A t) (bful B t)) (z : bop B t = 20)
    (h : (∃ i, i < bfi B (t + 1) - bfi B t ∧ ∃ j, j < i ∧ ev B J (bar B (bfi B t + i)) = ev B J (bar B (bfi B t + j)) ∧ sbs (bful B (bar B (bfi B t + i))) (A (bar B (bfi B t + i))) ∧ sbs (bful B (bar B (bfi B t + j))) (A (bar B (bfi B t + j)))) ∨ ∀ i, i < bfi B (t + 1) - bfi B t → ∀ j, j < i → difB A (ev B J) (bar B (bfi B t + i)) (bar B (bfi B t + j))) : stOK B J A t := by
  intro kn on hA
  have y := ty_20 (wf_ty w ht) z
  rw [bful_0 y.2.2] at hf
  rw [ck_20 z, ei_t1]
  · exact hf
  · rcases h with ⟨i, h1, j, h2, h3, h4, h5⟩ | h
    · right
      exact (dsK_1 _).mpr ⟨i, by omega, j, h2, ful_sa (hA i h1) (hA j (by omega)) h4 h5 h3⟩
    · left
      exact (dsK_2 _).mpr (fun i hi j hj => dif_ot (hA i (by omega)) (hA j (by omega)) (h i (by omega) j hj))
theorem st_shift (w : wfB B) (ht : t < bma B) (hf : sbs (A t) (bful B t)) (z : bop B t = 33 ∨ bop B t = 34) (h1 : sbs (bful B (bar B (bfi B t + 1))) (A (bar B (bfi B t + 1))))
    (h2 : (ev B J (bar B (bfi B t + 1))).toNat < bso B (bar B (bfi B t)) → sbs (if bop B t = 33 then A t >>> (ev B J (bar B (bfi B t + 1))).toNat else (A t <<< (ev B J (bar B (bfi B t + 1))).toNat) &&& bful B (bar B (bfi B t))) (A (bar B (bfi B t)))) : stOK B J A t := by
  intro kn on hA
  have ty := wf_ty w ht
  have y : (bfi B (t + 1) - bfi B t) = 2 ∧ bso B (bar B (bfi B t)) = bso B (bar B (bfi B t + 1)) ∧ 1 ≤ bso B (bar B (bfi B t)) ∧ bso B (bar B (bfi B t)) ≤ 64 ∧ (bso B t) = bso B (bar B (bfi B t)) := by
    rcases z with z | z
    · exact ty_33 ty z
    · exact ty_34 ty z
  have a0 : arOk B (ev B J) kn on (bar B (bfi B t)) ∧ sbs (A (bar B (bfi B t))) (kn (bar B (bfi B t))) := hA 0 (by omega)
  have a1 := hA 1 (by omega)
  have e := kn_full a1.1 a1.2 h1
  have fv : bful B t = bm (bso B t) := bful_v (by omega) (by omega)
  rcases z with z | z
  · rw [ck_33 z, if_pos e, ag_all a1.1.1 e a1.1.2.2]
    unfold shK
    rw [if_neg (show ¬ (33 : Nat) = 35 by decide), if_pos rfl]
    by_cases q : (ev B J (bar B (bfi B t + 1))).toNat < bso B t
    · rw [if_neg (fun n => n q)]
      have h2 := h2 (by omega)
      rw [if_pos z] at h2
      refine sbs.of fun j hj hb => ?_
      rw [BitVec.getLsbD_and, hf.b hb, Bool.and_true, BitVec.getLsbD_or, BitVec.getLsbD_shiftLeft, bm_bit]
      by_cases q2 : j < (ev B J (bar B (bfi B t + 1))).toNat
      · simp [q2, hj]
      · have := a0.2.b (h2.b (i := j - (ev B J (bar B (bfi B t + 1))).toNat) (by rw [BitVec.getLsbD_ushiftRight, show (ev B J (bar B (bfi B t + 1))).toNat + (j - (ev B J (bar B (bfi B t + 1))).toNat) = j by omega]; exact hb))
        simp [q2, hj, this]
    · rw [if_pos q]; exact hf
  · rw [ck_34 z, if_pos e, ag_all a1.1.1 e a1.1.2.2]
    unfold shK
    rw [if_neg (show ¬ (34 : Nat) = 35 by decide), if_neg (show ¬ (34 : Nat) = 33 by decide)]
    by_cases q : (ev B J (bar B (bfi B t + 1))).toNat < bso B t
    · rw [if_neg (fun n => n q)]
      have h2 := h2 (by omega)
      rw [if_neg (by omega)] at h2
      refine sbs.of fun j hj hb => ?_
      have jf := hf.b hb
      rw [BitVec.getLsbD_or, BitVec.getLsbD_ushiftRight, BitVec.getLsbD_and, BitVec.getLsbD_not, BitVec.getLsbD_ushiftRight, jf, fv, bm_bit]
      by_cases q2 : (ev B J (bar B (bfi B t + 1))).toNat + j < bso B t
      · have := a0.2.b (h2.b (i := (ev B J (bar B (bfi B t + 1))).toNat + j) (by
          rw [BitVec.getLsbD_and, BitVec.getLsbD_shiftLeft, bful_v (by omega) (by omega), bm_bit]
          simp [show (ev B J (bar B (bfi B t + 1))).toNat + j < 64 by omega, show (ev B J (bar B (bfi B t + 1))).toNat + j < bso B (bar B (bfi B t)) by omega, hb]))
        simp [this]
      · simp [q2, hj]
    · rw [if_pos q]; exact hf
/-- the bit of a value from which a bit of the filled one comes -/
theorem st_ashr (w : wfB B) (ht : t < bma B) (hf : sbs (A t) (bful B t)) (z : bop B t = 35) (h1 : sbs (bful B (bar B (bfi B t + 1))) (A (bar B (bfi B t + 1))))
    (h2 : ∀ j, (A t).getLsbD j = true → (A (bar B (bfi B t))).getLsbD (if sshf (ev B J (bar B (bfi B t + 1))) (bso B (bar B (bfi B t))) + j < bso B (bar B (bfi B t)) then sshf (ev B J (bar B (bfi B t + 1))) (bso B (bar B (bfi B t))) + j else bso B (bar B (bfi B t)) - 1) = true) : stOK B J A t := by
  intro kn on hA
  have y := ty_35 (wf_ty w ht) z
  have a0 : arOk B (ev B J) kn on (bar B (bfi B t)) ∧ sbs (A (bar B (bfi B t))) (kn (bar B (bfi B t))) := hA 0 (by omega)
  have a1 := hA 1 (by omega)
  have e := kn_full a1.1 a1.2 h1
  rw [ck_35 z, if_pos e, ag_all a1.1.1 e a1.1.2.2, y.2.2.2.2]
  unfold shK
  rw [if_pos rfl]
  refine sbs.of fun j hj hb => ?_
  rw [BitVec.getLsbD_and, hf.b hb, Bool.and_true, BitVec.getLsbD_sshiftRight, BitVec.msb_eq_getLsbD_last]
  have q := a0.2.b (h2 j hb)
  generalize hs : sshf (ev B J (bar B (bfi B t + 1))) (bso B (bar B (bfi B t))) = s at q ⊢
  have j64 : decide (64 ≤ j) = false := decide_eq_false (by omega)
  rw [j64]
  by_cases q2 : s + j < 64
  · rw [if_pos q2, sgn_bit (by omega) (by omega) q2, q]; rfl
  · rw [if_neg q2, sgn_bit (by omega) (by omega) (by decide)]
    rw [if_neg (by omega)] at q
    by_cases q3 : 64 - 1 < bso B (bar B (bfi B t))
    · rw [if_pos q3, show 64 - 1 = bso B (bar B (bfi B t)) - 1 by omega, q]; rfl
    · rw [if_neg q3, q]; rfl
theorem st_sext (w : wfB B) (ht : t < bma B) (hf : sbs (A t) (bful B t)) (z : bop B t = 12)
    (h2 : ∀ j, (A t).getLsbD j = true → (A (bar B (bfi B t))).getLsbD (if j < bso B (bar B (bfi B t)) then j else bso B (bar B (bfi B t)) - 1) = true) : stOK B J A t := by
  intro kn on hA
  have y := ty_12 (wf_ty w ht) z
  have a0 : arOk B (ev B J) kn on (bar B (bfi B t)) ∧ sbs (A (bar B (bfi B t))) (kn (bar B (bfi B t))) := hA 0 (by omega)
  rw [ck_12 z]
  refine sbs.of fun j hj hb => ?_
  rw [BitVec.getLsbD_and, hf.b hb, Bool.and_true, sgn_bit (by omega) (by omega) hj]
  exact a0.2.b (h2 j hb)
theorem st_zext (w : wfB B) (ht : t < bma B) (hf : sbs (A t) (bful B t)) (z : bop B t = 11) (h2 : sbs (A t &&& bful B (bar B (bfi B t))) (A (bar B (bfi B t)))) : stOK B J A t := by
  intro kn on hA
  have y := ty_11 (wf_ty w ht) z
  have a0 : arOk B (ev B J) kn on (bar B (bfi B t)) ∧ sbs (A (bar B (bfi B t))) (kn (bar B (bfi B t))) := hA 0 (by omega)
  rw [ck_11 z]
  refine sbs.of fun j hj hb => ?_
  rw [BitVec.getLsbD_or, BitVec.getLsbD_and, BitVec.getLsbD_not, hf.b hb]
  cases e : (bful B (bar B (bfi B t))).getLsbD j with
  | false => simp [hj]
  | true =>
    rw [a0.2.b (h2.b (by rw [BitVec.getLsbD_and, hb, e]; rfl))]
    rfl
theorem st_extr (w : wfB B) (ht : t < bma B) (hf : sbs (A t) (bful B t)) (z : bop B t = 10) (h2 : sbs (A t <<< blo B t) (A (bar B (bfi B t)))) : stOK B J A t := by
  intro kn on hA
  have y := ty_10 (wf_ty w ht) z
  have a0 : arOk B (ev B J) kn on (bar B (bfi B t)) ∧ sbs (A (bar B (bfi B t))) (kn (bar B (bfi B t))) := hA 0 (by omega)
  rw [ck_10 z]
  refine sbs.of fun j hj hb => ?_
  have jf := hf.b hb
  rw [BitVec.getLsbD_and, jf, Bool.and_true, BitVec.getLsbD_ushiftRight]
  rw [bful_v (by omega) (by omega), bm_bit] at jf
  simp at jf
  refine a0.2.b (h2.b ?_)
  rw [BitVec.getLsbD_shiftLeft]
  simp [show blo B t + j < 64 by omega, hb]
end ST2
