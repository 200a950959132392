section OK5
variable {B : Bk} {kn on v : Nat → BitVec 64} {t S J : Nat}
theorem sSa_eq {a b : Nat} (ha : arOk B v kn on a) (hb : arOk B v kn on b) (hs : bso B a = bso B b) (h : sSa B kn on a b = true) : v a = v b := by
  unfold sSa at h
  simp only [Bool.and_eq_true, decide_eq_true_eq] at h
  have e := bful_eq hs
  exact ag_eq ha.1 hb.1 h.1 (h.2.1.trans e.symm) ha.2.2 (by rw [e]; exact hb.2.2) h.2.2
theorem sOt_ne {a b : Nat} (ha : arOk B v kn on a) (hb : arOk B v kn on b) (h : sOt (kn a) (kn b) (on a) (on b) = true) : v a ≠ v b := by
  unfold sOt at h
  exact ag_ne ha.1 hb.1 (of_decide_eq_true h)
theorem ok_ei {p : Prop} {r : Bool × Bool} (hs : bso B t = 0) (hy : r.1 = true → p) (hn : r.2 = true → ¬ p) : tOk B (bit p &&& bful B t) t (eiK r) := by
  unfold tOk
  rw [bful_0 hs]
  exact ⟨snd_either hy hn, ei_sub r⟩
theorem ok_const (z : bop B t = 48) (w : wfB B) (ht : t < bma B) : tOk B (stp B S J v t) t (chk B kn on t) := by
  have y := ty_48 (wf_ty w ht) z
  unfold stp
  rw [if_neg (by omega), if_pos z, ck_48 z]
  exact ⟨rfl, BitVec.and_self⟩
theorem ok_ite (w : wfB B) (ht : t < bma B) (hA : ∀ i, i < bfi B (t + 1) - bfi B t → arOk B v kn on (bar B (bfi B t + i))) (z : bop B t = 18) : tOk B (stp B S J v t) t (chk B kn on t) := by
  have y := ty_18 (wf_ty w ht) z
  rw [stp_ap (by omega) (by omega)]
  obtain ⟨a1, a2, a3⟩ : arOk B v kn on (bar B (bfi B t)) := hA 0 (by omega)
  obtain ⟨b1, b2, b3⟩ := hA 1 (by omega)
  obtain ⟨c1, c2, c3⟩ := hA 2 (by omega)
  rw [bful_eq y.2.2.1] at b2
  rw [bful_eq y.2.2.2] at c2
  rw [ap_18 z, ck_18 z]
  by_cases e : kn (bar B (bfi B t)) = bful B (bar B (bfi B t))
  · rw [if_pos e, ag_all a1 e a3]
    by_cases e2 : v (bar B (bfi B t)) = 0#64
    · rw [if_pos e2, if_pos e2]; exact ⟨snd_cut c1 c2, c2⟩
    · rw [if_neg e2, if_neg e2]; exact ⟨snd_cut b1 b2, b2⟩
  · rw [if_neg e]
    refine ⟨snd_ite3 (¬ v (bar B (bfi B t)) = 0#64) (Classical.em _) _ (fun q => if_neg q) (fun q => if_pos (Classical.not_not.mp q)) b1 c1 b2, ?_⟩
    refine sub_bits (fun i hi hb => ?_)
    simp only [BitVec.getLsbD_and, Bool.and_eq_true] at hb
    exact bits_sub b2 hb.1.1
theorem ok_eq (w : wfB B) (ht : t < bma B) (hA : ∀ i, i < bfi B (t + 1) - bfi B t → arOk B v kn on (bar B (bfi B t + i))) (z : bop B t = 19) : tOk B (stp B S J v t) t (chk B kn on t) := by
  have y := ty_19 (wf_ty w ht) z
  rw [stp_ap (by omega) (by omega), ap_19 z, ck_19 z]
  have a0 : arOk B v kn on (bar B (bfi B t)) := hA 0 (by omega)
  refine ok_ei y.2.2 (fun h => ?_) (fun h => ?_)
  · rw [eqK_1] at h
    have e : ∀ i, i < bfi B (t + 1) - bfi B t → v (bar B (bfi B t + i)) = v (bar B (bfi B t)) := by
      intro i hi
      by_cases q : i = 0
      · subst q; rfl
      · have := h (i - 1) (by omega)
        rw [show i - 1 + 1 = i by omega] at this
        exact (sSa_eq a0 (hA i hi) (y.2.1 i hi).symm this).symm
    intro i hi
    rw [e (i + 1) hi, e i (by omega)]
  · rw [eqK_2] at h
    obtain ⟨i, h1, h2⟩ := h
    intro P
    have e : ∀ i, i < bfi B (t + 1) - bfi B t → v (bar B (bfi B t + i)) = v (bar B (bfi B t)) := by
      intro i
      induction i with
      | zero => intro _; rfl
      | succ i ih => intro hi; rw [P i hi, ih (by omega)]
    exact sOt_ne a0 (hA (i + 1) (by omega)) h2 (e (i + 1) (by omega)).symm
theorem ok_ds (w : wfB B) (ht : t < bma B) (hA : ∀ i, i < bfi B (t + 1) - bfi B t → arOk B v kn on (bar B (bfi B t + i))) (z : bop B t = 20) : tOk B (stp B S J v t) t (chk B kn on t) := by
  have y := ty_20 (wf_ty w ht) z
  rw [stp_ap (by omega) (by omega), ap_20 z, ck_20 z]
  refine ok_ei y.2.2 (fun h => ?_) (fun h => ?_)
  · have h := dsK_2 _ |>.mp h
    intro i hi j hj
    exact sOt_ne (hA i hi) (hA j (by omega)) (h i (by omega) j hj)
  · obtain ⟨i, h1, j, h2, h3⟩ := dsK_1 _ |>.mp h
    intro P
    exact P i (by omega) j h2 (sSa_eq (hA i (by omega)) (hA j (by omega)) ((y.2.1 i (by omega)).trans (y.2.1 j (by omega)).symm) h3)
theorem ok_sub (w : wfB B) (ht : t < bma B) (hA : ∀ i, i < bfi B (t + 1) - bfi B t → arOk B v kn on (bar B (bfi B t + i))) (z : bop B t = 28) : tOk B (stp B S J v t) t (chk B kn on t) := by
  have y := ty_28 (wf_ty w ht) z
  rw [stp_ap (by omega) (by omega), ap_28 z, ck_28 z]
  obtain ⟨a1, a2, a3⟩ : arOk B v kn on (bar B (bfi B t)) := hA 0 (by omega)
  obtain ⟨b1, b2, b3⟩ := hA 1 (by omega)
  rw [bful_eq (show bso B (bar B (bfi B t)) = bso B t by omega)] at a2
  have k2 : kn (bar B (bfi B t)) &&& kn (bar B (bfi B t + 1)) &&& bful B t = kn (bar B (bfi B t)) &&& kn (bar B (bfi B t + 1)) := by
    refine sub_bits (fun i hi hb => ?_)
    rw [BitVec.getLsbD_and, Bool.and_eq_true] at hb
    exact bits_sub a2 hb.1
  refine ⟨snd_run (bful_v (by omega) (by omega)) (by omega) (fun j hj hb => ?_) k2, lrun_sub k2⟩
  have hb' : ∀ i, i < j → (kn (bar B (bfi B t))).getLsbD i = true ∧ (kn (bar B (bfi B t + 1))).getLsbD i = true := fun i hi => by
    have := hb i hi
    rw [BitVec.getLsbD_and, Bool.and_eq_true] at this
    exact this
  exact cg_sub hj (cg_bits.mpr (fun i hi => ag_k a1 (hb' i hi).1)) (cg_bits.mpr (fun i hi => ag_k b1 (hb' i hi).2))
theorem ok_div (w : wfB B) (ht : t < bma B) (hA : ∀ i, i < bfi B (t + 1) - bfi B t → arOk B v kn on (bar B (bfi B t + i))) (z : bop B t = 29 ∨ bop B t = 30 ∨ bop B t = 31 ∨ bop B t = 32) : tOk B (stp B S J v t) t (chk B kn on t) := by
  have ty := wf_ty w ht
  rw [stp_ap (by omega) (by omega)]
  have key : ∀ p, (bfi B (t + 1) - bfi B t) = 2 → bso B t = bso B (bar B (bfi B t)) → tOk B (two p (v (bar B (bfi B t))) (v (bar B (bfi B t + 1))) (bso B (bar B (bfi B t))) &&& bful B t) t (if kn (bar B (bfi B t)) = bful B (bar B (bfi B t)) ∧ kn (bar B (bfi B t + 1)) = bful B (bar B (bfi B t + 1)) then ((bful B t), two p (on (bar B (bfi B t))) (on (bar B (bfi B t + 1))) (bso B t)) else (0#64, 0#64)) := by
    intro p hn hs
    obtain ⟨a1, a2, a3⟩ : arOk B v kn on (bar B (bfi B t)) := hA 0 (by omega)
    obtain ⟨b1, b2, b3⟩ := hA 1 (by omega)
    by_cases e : kn (bar B (bfi B t)) = bful B (bar B (bfi B t)) ∧ kn (bar B (bfi B t + 1)) = bful B (bar B (bfi B t + 1))
    · rw [if_pos e, ag_all a1 e.1 a3, ag_all b1 e.2 b3, hs]
      exact ok_full rfl
    · rw [if_neg e]
      exact ok_0 _
  rcases z with z | z | z | z
  · have y := ty_29 ty z; rw [ap_29 z, ck_29 z]; exact key 29 y.1 (by omega)
  · have y := ty_30 ty z; rw [ap_30 z, ck_30 z]; exact key 30 y.1 (by omega)
  · have y := ty_31 ty z; rw [ap_31 z, ck_31 z]; exact key 31 y.1 (by omega)
  · have y := ty_32 ty z; rw [ap_32 z, ck_32 z]; exact key 32 y.1 (by omega)
end OK5
