/-! WHAT IS ASKED FOR IS ENOUGH for the Checker, by operator -/
section ST
variable {B : Bk} {t J : Nat} {A : Nat → BitVec 64}
theorem ev_ap (w : wfB B) (ht : t < bma B) (n7 : bop B t ≠ 47) (n8 : bop B t ≠ 48) : ev B J t = appl B (evL B J t) t &&& bful B t := by
  rw [ev_eq, stp_ap n7 n8]
theorem evL_ar {i : Nat} (w : wfB B) (ht : t < bma B) (hi : i < bfi B (t + 1) - bfi B t) : evL B J t (bar B (bfi B t + i)) = ev B J (bar B (bfi B t + i)) := evL_lt B J (wf_ar w ht (by omega) (by omega))
theorem evL_a0 (w : wfB B) (ht : t < bma B) (hi : 0 < bfi B (t + 1) - bfi B t) : evL B J t (bar B (bfi B t)) = ev B J (bar B (bfi B t)) := evL_lt B J (wf_ar w ht (by omega) (by omega))
theorem ag_bit {x k o : BitVec 64} (h : ag x k o) {i : Nat} (hk : k.getLsbD i = true) : o.getLsbD i = x.getLsbD i := (ag_k h hk).symm
theorem st_not (w : wfB B) (ht : t < bma B) (z : bop B t = 13 ∨ bop B t = 21) (h : sbs (A t) (A (bar B (bfi B t)))) : stOK B J A t := by
  intro kn on hA
  have ty := wf_ty w ht
  have n1 : bfi B (t + 1) - bfi B t = 1 := by
    rcases z with z | z
    · exact (ty_13 ty z).1
    · exact (ty_21 ty z).1
  have a := (hA 0 (by omega)).2
  rcases z with z | z
  · rw [ck_13 z]; exact h.trans a
  · rw [ck_21 z]; exact h.trans a
theorem st_and (w : wfB B) (ht : t < bma B) (hf : sbs (A t) (bful B t)) (z : bop B t = 14 ∨ bop B t = 23) (h1 : ∀ i, i < bfi B (t + 1) - bfi B t → sbs (A t &&& ev B J t) (A (bar B (bfi B t + i))))
    (h2 : ∀ j, (A t &&& ~~~ ev B J t).getLsbD j = true → ∃ i, i < bfi B (t + 1) - bfi B t ∧ (A (bar B (bfi B t + i))).getLsbD j = true ∧ (ev B J (bar B (bfi B t + i))).getLsbD j = false) : stOK B J A t := by
  intro kn on hA
  have ty := wf_ty w ht
  have e : (chk B kn on t).1 = (andK (bful B t) (fun i => kn (bar B (bfi B t + i))) (fun i => on (bar B (bfi B t + i))) (bfi B (t + 1) - bfi B t)).1 ||| (andK (bful B t) (fun i => kn (bar B (bfi B t + i))) (fun i => on (bar B (bfi B t + i))) (bfi B (t + 1) - bfi B t)).2 := by
    rcases z with z | z
    · rw [ck_14 z]
    · rw [ck_23 z]
  have v : ∃ op, (op = 14 ∨ op = 23) ∧ ev B J t = foldA (fun i => evL B J t (bar B (bfi B t + i))) op (bfi B (t + 1) - bfi B t - 1) &&& bful B t ∧ 2 ≤ bfi B (t + 1) - bfi B t := by
    rcases z with z | z
    · exact ⟨14, Or.inl rfl, by rw [ev_ap w ht (by omega) (by omega), ap_14 z], (ty_14 ty z).1⟩
    · exact ⟨23, Or.inr rfl, by rw [ev_ap w ht (by omega) (by omega), ap_23 z], (ty_23 ty z).1⟩
  obtain ⟨op, ho, v, n2⟩ := v
  rw [e]
  refine sbs.of fun j hj hb => ?_
  rw [BitVec.getLsbD_or, Bool.or_eq_true]
  cases hv : (ev B J t).getLsbD j with
  | true =>
    left
    rw [andK_1]
    refine ⟨hf.b hb, fun i hi => ?_⟩
    have q := (h1 i hi).b (i := j) (by rw [BitVec.getLsbD_and, hb, hv]; rfl)
    have q2 := sbs.b (hA i hi).2 q
    rw [ag_bit (hA i hi).1.1 q2]
    rw [v, BitVec.getLsbD_and, Bool.and_eq_true, fold_and ho] at hv
    have := hv.1 i (by omega)
    rw [evL_ar w ht hi] at this
    exact this
  | false =>
    right
    rw [andK_2 hj]
    obtain ⟨i, i1, i2, i3⟩ := h2 j (by rw [BitVec.getLsbD_and, BitVec.getLsbD_not, hb, hv]; simp [hj])
    have q2 := sbs.b (hA i i1).2 i2
    exact ⟨i, i1, q2, by rw [ag_bit (hA i i1).1.1 q2]; exact i3⟩
theorem st_or (w : wfB B) (ht : t < bma B) (hf : sbs (A t) (bful B t)) (z : bop B t = 15 ∨ bop B t = 24) (h1 : ∀ i, i < bfi B (t + 1) - bfi B t → sbs (A t &&& ~~~ ev B J t) (A (bar B (bfi B t + i))))
    (h2 : ∀ j, (A t &&& ev B J t).getLsbD j = true → ∃ i, i < bfi B (t + 1) - bfi B t ∧ (A (bar B (bfi B t + i))).getLsbD j = true ∧ (ev B J (bar B (bfi B t + i))).getLsbD j = true) : stOK B J A t := by
  intro kn on hA
  have ty := wf_ty w ht
  have e : (chk B kn on t).1 = (orK (bful B t) (fun i => kn (bar B (bfi B t + i))) (fun i => on (bar B (bfi B t + i))) (fun _ => 0#64) (bfi B (t + 1) - bfi B t)).1 ||| (orK (bful B t) (fun i => kn (bar B (bfi B t + i))) (fun i => on (bar B (bfi B t + i))) (fun _ => 0#64) (bfi B (t + 1) - bfi B t)).2 := by
    rcases z with z | z
    · rw [ck_15 z]
    · rw [ck_24 z]
  have v : ∃ op, (op = 15 ∨ op = 24) ∧ ev B J t = foldA (fun i => evL B J t (bar B (bfi B t + i))) op (bfi B (t + 1) - bfi B t - 1) &&& bful B t ∧ 2 ≤ bfi B (t + 1) - bfi B t := by
    rcases z with z | z
    · exact ⟨15, Or.inl rfl, by rw [ev_ap w ht (by omega) (by omega), ap_15 z], (ty_15 ty z).1⟩
    · exact ⟨24, Or.inr rfl, by rw [ev_ap w ht (by omega) (by omega), ap_24 z], (ty_24 ty z).1⟩
  obtain ⟨op, ho, v, n2⟩ := v
  rw [e]
  refine sbs.of fun j hj hb => ?_
  rw [BitVec.getLsbD_or, Bool.or_eq_true]
  cases hv : (ev B J t).getLsbD j with
  | true =>
    left
    rw [orK_1]
    obtain ⟨i, i1, i2, i3⟩ := h2 j (by rw [BitVec.getLsbD_and, hb, hv]; rfl)
    have q2 := sbs.b (hA i i1).2 i2
    refine ⟨i, i1, ?_⟩
    rw [BitVec.xor_zero]
    exact (ag_bit (hA i i1).1.1 q2).trans i3
  | false =>
    right
    rw [orK_2 hj]
    refine ⟨hf.b hb, fun i hi => ?_⟩
    have q := (h1 i hi).b (i := j) (by rw [BitVec.getLsbD_and, BitVec.getLsbD_not, hb, hv]; simp [hj])
    have q2 := sbs.b (hA i hi).2 q
    refine ⟨q2, ?_⟩
    rw [BitVec.xor_zero]
    have q3 := ag_bit (hA i hi).1.1 q2
    rw [q3]
    have hn : ¬ (foldA (fun i => evL B J t (bar B (bfi B t + i))) op (bfi B (t + 1) - bfi B t - 1)).getLsbD j = true := by
      intro q4
      rw [v, BitVec.getLsbD_and, q4, hf.b hb] at hv
      cases hv
    cases hq : (ev B J (bar B (bfi B t + i))).getLsbD j with
    | false => rfl
    | true =>
      refine absurd ((fold_or ho _).mpr ⟨i, by omega, ?_⟩) hn
      rw [evL_ar w ht hi]
      exact hq
theorem st_xor (w : wfB B) (ht : t < bma B) (hf : sbs (A t) (bful B t)) (z : bop B t = 16 ∨ bop B t = 25) (h1 : ∀ i, i < bfi B (t + 1) - bfi B t → sbs (A t) (A (bar B (bfi B t + i)))) : stOK B J A t := by
  intro kn on hA
  have e : (chk B kn on t).1 = (xorK (bful B t) (fun i => kn (bar B (bfi B t + i))) (fun i => on (bar B (bfi B t + i))) (bfi B (t + 1) - bfi B t)).1 := by
    rcases z with z | z
    · rw [ck_16 z]
    · rw [ck_25 z]
  rw [e]
  exact sbs.of fun j hj hb => (xorK_1 _).mpr ⟨hf.b hb, fun i hi => sbs.b (hA i hi).2 ((h1 i hi).b hb)⟩
theorem run_b {k : BitVec 64} {j : Nat} (hj : j < 64) (h : ∀ i, i ≤ j → k.getLsbD i = true) : (lrun k).getLsbD j = true := by
  obtain ⟨r, h1, h2, h3, h4⟩ := lrun_spec k
  rw [h2, bm_bit]
  have : j < r := by
    apply Classical.byContradiction
    intro q
    have := h4 (by omega)
    rw [h r (by omega)] at this
    cases this
  simp [this, hj]
theorem sumK_b {f : BitVec 64} {k o : Nat → BitVec 64} {j : Nat} : ∀ n, (sumK f k o n).1.getLsbD j = true ↔ f.getLsbD j = true ∧ ∀ i, i < n → (lrun (k i)).getLsbD j = true
  | 0 => by simp [sumK]
  | n + 1 => by
    simp only [sumK, BitVec.getLsbD_and, Bool.and_eq_true, sumK_b n]
    exact ⟨fun h => ⟨h.1.1, lt_s h.1.2 h.2⟩, fun h => ⟨⟨h.1, fun i hi => h.2 i (by omega)⟩, h.2 n (by omega)⟩⟩
theorem upT_all {x : BitVec 64} {i j : Nat} (hb : x.getLsbD j = true) (hi : i ≤ j) : (upT x).getLsbD i = true := upT_bit.mpr ⟨j, hi, hb⟩
theorem st_sum (w : wfB B) (ht : t < bma B) (hf : sbs (A t) (bful B t)) (z : bop B t = 22 ∨ bop B t = 26 ∨ bop B t = 28) (h1 : ∀ i, i < bfi B (t + 1) - bfi B t → sbs (upT (A t)) (A (bar B (bfi B t + i)))) : stOK B J A t := by
  intro kn on hA
  have ty := wf_ty w ht
  have kk : ∀ i, i < bfi B (t + 1) - bfi B t → ∀ j, (A t).getLsbD j = true → ∀ m, m ≤ j → (kn (bar B (bfi B t + i))).getLsbD m = true := fun i hi j hj m hm => sbs.b (hA i hi).2 ((h1 i hi).b (upT_all hj hm))
  rcases z with z | z | z
  · have y := ty_22 ty z
    rw [ck_22 z]
    exact sbs.of fun j hj hb => run_b hj (fun i hi => kk 0 (by omega) j hb i hi)
  · rw [ck_26 z]
    exact sbs.of fun j hj hb => (sumK_b _).mpr ⟨hf.b hb, fun i hi => run_b hj (fun m hm => kk i hi j hb m hm)⟩
  · have y := ty_28 ty z
    rw [ck_28 z]
    refine sbs.of fun j hj hb => run_b hj (fun i hi => ?_)
    rw [BitVec.getLsbD_and, kk 1 (by omega) j hb i hi]
    exact (Bool.and_true _).trans (kk 0 (by omega) j hb i hi)
theorem kn_full {kn on : Nat → BitVec 64} {a : Nat} (h : arOk B (ev B J) kn on a) (h2 : sbs (A a) (kn a)) (h3 : sbs (bful B a) (A a)) : kn a = bful B a := by
  have h4 := h3.trans h2
  unfold sbs at h4
  rw [← h4, BitVec.and_comm]
  exact h.2.1.symm
theorem st_div (w : wfB B) (ht : t < bma B) (hf : sbs (A t) (bful B t)) (z : bop B t = 29 ∨ bop B t = 30 ∨ bop B t = 31 ∨ bop B t = 32) (h1 : ∀ i, i < bfi B (t + 1) - bfi B t → sbs (bful B (bar B (bfi B t + i))) (A (bar B (bfi B t + i)))) : stOK B J A t := by
  intro kn on hA
  have ty := wf_ty w ht
  have n2 : bfi B (t + 1) - bfi B t = 2 := by
    rcases z with z | z | z | z
    · exact (ty_29 ty z).1
    · exact (ty_30 ty z).1
    · exact (ty_31 ty z).1
    · exact (ty_32 ty z).1
  have c : kn (bar B (bfi B t)) = bful B (bar B (bfi B t)) ∧ kn (bar B (bfi B t + 1)) = bful B (bar B (bfi B t + 1)) := ⟨kn_full (hA 0 (by omega)).1 (hA 0 (by omega)).2 (h1 0 (by omega)), kn_full (hA 1 (by omega)).1 (hA 1 (by omega)).2 (h1 1 (by omega))⟩
  rcases z with z | z | z | z
  · rw [ck_29 z, if_pos c]; exact hf
  · rw [ck_30 z, if_pos c]; exact hf
  · rw [ck_31 z, if_pos c]; exact hf
  · rw [ck_32 z, if_pos c]; exact hf
theorem st_ite (w : wfB B) (ht : t < bma B) (z : bop B t = 18) (h0 : sbs (bful B (bar B (bfi B t))) (A (bar B (bfi B t)))) (h1 : ev B J (bar B (bfi B t)) ≠ 0#64 → sbs (A t) (A (bar B (bfi B t + 1)))) (h2 : ev B J (bar B (bfi B t)) = 0#64 → sbs (A t) (A (bar B (bfi B t + 2)))) : stOK B J A t := by
  intro kn on hA
  have y := ty_18 (wf_ty w ht) z
  have a0 : arOk B (ev B J) kn on (bar B (bfi B t)) ∧ sbs (A (bar B (bfi B t))) (kn (bar B (bfi B t))) := hA 0 (by omega)
  have e := kn_full a0.1 a0.2 h0
  rw [ck_18 z, if_pos e, ag_all a0.1.1 e a0.1.2.2]
  by_cases q : ev B J (bar B (bfi B t)) = 0#64
  · rw [if_pos q]; exact (h2 q).trans (hA 2 (by omega)).2
  · rw [if_neg q]; exact (h1 q).trans (hA 1 (by omega)).2
theorem st_const (w : wfB B) (ht : t < bma B) (hf : sbs (A t) (bful B t)) (z : bop B t = 48) : stOK B J A t := by
  intro kn on hA
  rw [ck_48 z]
  exact hf
theorem st_zero (h : A t = 0#64) : stOK B J A t := fun kn on hA => by rw [h]; exact sbs.zero _
end ST
