section ST4
variable {B : Bk} {t J : Nat} {A : Nat → BitVec 64}
theorem lr_ge {a : BitVec 64} {m : Nat} (hm : m ≤ 64) (h : ∀ i, i < m → a.getLsbD i = true) : m ≤ lr a := by
  apply Classical.byContradiction
  intro q
  have := (lr_bits a).2 (by omega)
  rw [h _ (by omega)] at this
  cases this
theorem mul_low {x y : BitVec 64} {m : Nat} (hm : m ≤ 64) (h : (∀ i, i < m → x.getLsbD i = false) ∨ ∀ i, i < m → y.getLsbD i = false) : ∀ i, i < m → (x * y).getLsbD i = false := by
  have c : cg m (x * y) 0#64 := by
    rcases h with h | h
    · have := cg_mul hm (cg_bits.mpr (fun i hi => by rw [h i hi]; simp) : cg m x 0#64) (rfl : cg m y y)
      rw [BitVec.zero_mul] at this
      exact this
    · have := cg_mul hm (rfl : cg m x x) (cg_bits.mpr (fun i hi => by rw [h i hi]; simp) : cg m y 0#64)
      rw [BitVec.mul_zero] at this
      exact this
  intro i hi
  rw [cg_bits.mp c i hi]
  simp
theorem prod_all {W m : Nat} {k o : Nat → BitVec 64} (hm : m ≤ W) : ∀ n, (∀ i, i < n → m ≤ lr (k i)) → m ≤ (prodK W k o n).1
  | 0, _ => hm
  | n + 1, h => by
    have ih := prod_all (o := o) hm n (fun i hi => h i (by omega))
    have := h n (by omega)
    simp only [prodK]
    omega
theorem prod_zero {W m b : Nat} {k o : Nat → BitVec 64} (hm : m ≤ W) (hW : W ≤ 64) (h1 : m ≤ lr (k b)) (h2 : m ≤ lr (k b &&& ~~~ o b)) : ∀ n, b < n → m ≤ (prodK W k o n).1 ∧ ∀ i, i < m → (prodK W k o n).2.getLsbD i = false
  | 0, h => absurd h (by omega)
  | n + 1, h => by
    by_cases e : b = n
    · subst e
      simp only [prodK]
      refine ⟨by omega, mul_low (by omega) (Or.inr fun i hi => ?_)⟩
      have := (lr_bits (k b &&& ~~~ o b)).1 i (by omega)
      simp only [BitVec.getLsbD_and, BitVec.getLsbD_not, Bool.and_eq_true, Bool.not_eq_true'] at this
      rw [BitVec.getLsbD_and, this.2.2]
      rfl
    · obtain ⟨i1, i2⟩ := prod_zero hm hW h1 h2 n (by omega)
      simp only [prodK]
      have l3 : m ≤ lr (bm (prodK W k o n).1 &&& ~~~ (prodK W k o n).2) := lr_ge (by omega) (fun i hi => by
        rw [BitVec.getLsbD_and, BitVec.getLsbD_not, i2 i hi, bm_bit]
        simp
        omega)
      refine ⟨by omega, mul_low (by omega) (Or.inl fun i hi => ?_)⟩
      rw [BitVec.getLsbD_and, i2 i hi]
      rfl
theorem st_prod (w : wfB B) (ht : t < bma B) (hf : sbs (A t) (bful B t)) (z : bop B t = 27)
    (h : (∀ i, i < bfi B (t + 1) - bfi B t → sbs (upT (A t)) (A (bar B (bfi B t + i)))) ∨ ∃ i, i < bfi B (t + 1) - bfi B t ∧ sbs (upT (A t)) (A (bar B (bfi B t + i))) ∧ ev B J (bar B (bfi B t + i)) &&& upT (A t) = 0#64) : stOK B J A t := by
  intro kn on hA
  have y := ty_27 (wf_ty w ht) z
  rw [ck_27 z]
  refine sbs.of fun j hj hb => ?_
  have jf := hf.b hb
  rw [bful_v y.2.2.1 y.2.2.2, bm_bit] at jf
  simp at jf
  have kk : ∀ i, i < bfi B (t + 1) - bfi B t → sbs (upT (A t)) (A (bar B (bfi B t + i))) → ∀ m, m < j + 1 → (kn (bar B (bfi B t + i))).getLsbD m = true := fun i hi q m hm => sbs.b (hA i hi).2 (q.b (upT_all hb (by omega)))
  rw [bm_bit]
  have key : j + 1 ≤ (prodK (bso B t) (fun i => kn (bar B (bfi B t + i))) (fun i => on (bar B (bfi B t + i))) (bfi B (t + 1) - bfi B t)).1 := by
    rcases h with h | ⟨i, h1, h2, h3⟩
    · exact prod_all (by omega) _ (fun i hi => lr_ge (by omega) (kk i hi (h i hi)))
    · refine (prod_zero (b := i) (by omega) y.2.2.2 (lr_ge (by omega) (kk i h1 h2)) (lr_ge (by omega) (fun m hm => ?_)) _ h1).1
      have k1 := kk i h1 h2 m hm
      have v0 : (ev B J (bar B (bfi B t + i))).getLsbD m = false := by
        have := congrArg (fun x => x.getLsbD m) h3
        simp only [BitVec.getLsbD_and, upT_all hb (show m ≤ j by omega), Bool.and_true, BitVec.getLsbD_zero] at this
        exact this
      show (kn (bar B (bfi B t + i)) &&& ~~~ on (bar B (bfi B t + i))).getLsbD m = true
      rw [BitVec.getLsbD_and, BitVec.getLsbD_not, k1, ag_bit (hA i h1).1.1 k1, v0]
      simp
      omega
  simp [hj]
  omega
end ST4
