section OK4
variable {B : Bk} {kn on v : Nat → BitVec 64} {t S J : Nat}
theorem ok_many (w : wfB B) (ht : t < bma B) (hA : ∀ i, i < bfi B (t + 1) - bfi B t → arOk B v kn on (bar B (bfi B t + i))) (z : bop B t = 14 ∨ bop B t = 15 ∨ bop B t = 16 ∨ bop B t = 17 ∨ bop B t = 23 ∨ bop B t = 24 ∨ bop B t = 25 ∨ bop B t = 26 ∨ bop B t = 27) : tOk B (stp B S J v t) t (chk B kn on t) := by
  have ty := wf_ty w ht
  have y : 2 ≤ bfi B (t + 1) - bfi B t ∧ (∀ i, i < bfi B (t + 1) - bfi B t → bso B (bar B (bfi B t + i)) = bso B t) := by
    rcases z with z | z | z | z | z | z | z | z | z
    · have y := ty_14 ty z; exact ⟨y.1, fun i hi => (y.2.1 i hi).trans y.2.2.symm⟩
    · have y := ty_15 ty z; exact ⟨y.1, fun i hi => (y.2.1 i hi).trans y.2.2.symm⟩
    · have y := ty_16 ty z; exact ⟨y.1, fun i hi => (y.2.1 i hi).trans y.2.2.symm⟩
    · have y := ty_17 ty z; exact ⟨y.1, fun i hi => (y.2.1 i hi).trans y.2.2.symm⟩
    · have y := ty_23 ty z; exact ⟨y.1, y.2.1⟩
    · have y := ty_24 ty z; exact ⟨y.1, y.2.1⟩
    · have y := ty_25 ty z; exact ⟨y.1, y.2.1⟩
    · have y := ty_26 ty z; exact ⟨y.1, y.2.1⟩
    · have y := ty_27 ty z; exact ⟨y.1, y.2.1⟩
  have h1 : ∀ i, i < bfi B (t + 1) - bfi B t → ag (v (bar B (bfi B t + i))) (kn (bar B (bfi B t + i))) (on (bar B (bfi B t + i))) := fun i hi => (hA i hi).1
  have h2 : ∀ i, i < bfi B (t + 1) - bfi B t → kn (bar B (bfi B t + i)) &&& bful B t = kn (bar B (bfi B t + i)) := fun i hi => by
    rw [← bful_eq (y.2 i hi)]
    exact (hA i hi).2.1
  rw [stp_ap (by omega) (by omega)]
  rcases z with z | z | z | z | z | z | z | z | z
  · rw [ap_14 z, ck_14 z]; exact ok_and (Or.inl rfl) _ y.1 (fun i => kn (bar B (bfi B t + i))) (fun i => on (bar B (bfi B t + i))) _ _ h1 h2
  · rw [ap_15 z, ck_15 z]; exact ok_or (Or.inl rfl) _ y.1 (fun i => kn (bar B (bfi B t + i))) (fun i => on (bar B (bfi B t + i))) _ _ h1 h2
  · rw [ap_16 z, ck_16 z]; exact ok_xor (Or.inl rfl) _ y.1 (fun i => kn (bar B (bfi B t + i))) (fun i => on (bar B (bfi B t + i))) _ _ h1
  · rw [ap_17 z, ck_17 z]; exact ok_impl _ y.1 (fun i => kn (bar B (bfi B t + i))) (fun i => on (bar B (bfi B t + i))) (fun i => v (bar B (bfi B t + i))) _ h1 h2
  · rw [ap_23 z, ck_23 z]; exact ok_and (Or.inr rfl) _ y.1 (fun i => kn (bar B (bfi B t + i))) (fun i => on (bar B (bfi B t + i))) _ _ h1 h2
  · rw [ap_24 z, ck_24 z]; exact ok_or (Or.inr rfl) _ y.1 (fun i => kn (bar B (bfi B t + i))) (fun i => on (bar B (bfi B t + i))) _ _ h1 h2
  · rw [ap_25 z, ck_25 z]; exact ok_xor (Or.inr rfl) _ y.1 (fun i => kn (bar B (bfi B t + i))) (fun i => on (bar B (bfi B t + i))) _ _ h1
  · have y2 := ty_26 ty z
    rw [ap_26 z, ck_26 z]
    unfold tOk
    rw [bful_v y2.2.2.1 y2.2.2.2]
    refine ⟨snd_sum y2.2.2.2 (by omega) h1, ?_⟩
    obtain ⟨j, q1, q2, -⟩ := sumK_1 (g := fun i => v (bar B (bfi B t + i))) y2.2.2.2 h1 _ (Nat.le_refl _)
    rw [q2, bm_min, Nat.min_eq_left q1]
  · have y2 := ty_27 ty z
    rw [ap_27 z, ck_27 z]
    unfold tOk
    rw [bful_v y2.2.2.1 y2.2.2.2]
    refine ⟨snd_prod y2.2.2.2 (by omega) h1, ?_⟩
    have q := (prodK_1 (g := fun i => v (bar B (bfi B t + i))) y2.2.2.2 h1 _ (Nat.le_refl _)).1
    rw [bm_min, Nat.min_eq_left q]
end OK4
