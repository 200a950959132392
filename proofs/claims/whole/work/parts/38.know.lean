/-! WHAT IS KNOWN of a value: x &&& k = o (k: the bits that are known, o: those of them that are 1) -/
def ag (x k o : BitVec 64) : Prop := x &&& k = o
theorem ag_b {x k o : BitVec 64} (h : ag x k o) (i : Nat) : (x.getLsbD i && k.getLsbD i) = o.getLsbD i := by
  rw [← BitVec.getLsbD_and, h]
theorem ag_of {x k o : BitVec 64} (h : ∀ i, i < 64 → (x.getLsbD i && k.getLsbD i) = o.getLsbD i) : ag x k o := by
  apply BitVec.eq_of_getLsbD_eq
  intro i hi
  rw [BitVec.getLsbD_and]
  exact h i hi
/-- learned: what is put down as ones is cut by what is known -/
theorem ag_l {x k o : BitVec 64} (h : ∀ i, i < 64 → k.getLsbD i = true → x.getLsbD i = o.getLsbD i) : ag x k (o &&& k) := by
  apply ag_of
  intro i hi
  rw [BitVec.getLsbD_and]
  cases hk : k.getLsbD i with
  | false => simp
  | true => rw [h i hi hk]
theorem ag_k {x k o : BitVec 64} (h : ag x k o) {i : Nat} (hk : k.getLsbD i = true) : x.getLsbD i = o.getLsbD i := by
  have := ag_b h i
  rw [hk, Bool.and_true] at this
  exact this
theorem ag_n {x k o : BitVec 64} (h : ag x k o) {i : Nat} (hk : k.getLsbD i = false) : o.getLsbD i = false := by
  have := ag_b h i
  rw [hk, Bool.and_false] at this
  exact this.symm
theorem ag_sub {x k o : BitVec 64} (h : ag x k o) {i : Nat} (ho : o.getLsbD i = true) : k.getLsbD i = true ∧ x.getLsbD i = true := by
  have := ag_b h i
  rw [ho] at this
  cases hx : x.getLsbD i <;> cases hk : k.getLsbD i <;> simp_all
/-- known throughout: the value itself -/
theorem ag_all {x k o f : BitVec 64} (h : ag x k o) (hk : k = f) (hx : x &&& f = x) : o = x := by
  rw [← h, hk, hx]
/-! the lowest bits -/
def cg (j : Nat) (x y : BitVec 64) : Prop := x.setWidth j = y.setWidth j
theorem cg_bits {j : Nat} {x y : BitVec 64} : cg j x y ↔ ∀ i, i < j → x.getLsbD i = y.getLsbD i := by
  constructor
  · intro h i hi
    have := congrArg (fun z => z.getLsbD i) h
    simpa [hi] using this
  · intro h
    apply BitVec.eq_of_getLsbD_eq
    intro i hi
    simp [hi, h i hi]
theorem cg_add {j : Nat} (hj : j ≤ 64) {a b c d : BitVec 64} (h1 : cg j a b) (h2 : cg j c d) : cg j (a + c) (b + d) := by
  unfold cg at *
  rw [BitVec.setWidth_add _ _ hj, BitVec.setWidth_add _ _ hj, h1, h2]
theorem cg_mul {j : Nat} (hj : j ≤ 64) {a b c d : BitVec 64} (h1 : cg j a b) (h2 : cg j c d) : cg j (a * c) (b * d) := by
  unfold cg at *
  rw [BitVec.setWidth_mul _ _ hj, BitVec.setWidth_mul _ _ hj, h1, h2]
theorem cg_neg {j : Nat} (hj : j ≤ 64) {a b : BitVec 64} (h1 : cg j a b) : cg j (-a) (-b) := by
  unfold cg at *
  rw [BitVec.setWidth_neg_of_le hj, BitVec.setWidth_neg_of_le hj, h1]
theorem cg_sub {j : Nat} (hj : j ≤ 64) {a b c d : BitVec 64} (h1 : cg j a b) (h2 : cg j c d) : cg j (a - c) (b - d) := by
  rw [BitVec.sub_eq_add_neg, BitVec.sub_eq_add_neg]
  exact cg_add hj h1 (cg_neg hj h2)
/-- bits that are all ones up to the first 0 -/
theorem run_ex (a : BitVec 64) : ∀ n, n ≤ 64 → (∃ j, j < n ∧ (∀ i, i < j → a.getLsbD i = true) ∧ a.getLsbD j = false) ∨ ∀ i, i < n → a.getLsbD i = true
  | 0, _ => Or.inr (fun i h => absurd h (Nat.not_lt_zero i))
  | n + 1, h => by
    rcases run_ex a n (by omega) with ⟨j, h1, h2⟩ | h1
    · exact Or.inl ⟨j, by omega, h2⟩
    · cases hb : a.getLsbD n with
      | false => exact Or.inl ⟨n, by omega, h1, hb⟩
      | true =>
        refine Or.inr (fun i hi => ?_)
        by_cases e : i = n
        · rw [e]; exact hb
        · exact h1 i (by omega)
def lrun (a : BitVec 64) : BitVec 64 := (~~~a &&& (a + 1#64)) - 1#64
theorem lrun_spec (a : BitVec 64) : ∃ j, j ≤ 64 ∧ lrun a = bm j ∧ (∀ i, i < j → a.getLsbD i = true) ∧ (j < 64 → a.getLsbD j = false) := by
  rcases run_ex a 64 (Nat.le_refl _) with ⟨j, h1, h2, h3⟩ | h
  · refine ⟨j, by omega, ?_, h2, fun _ => h3⟩
    have key : ~~~a &&& (a + 1#64) = 1#64 <<< j := by
      have hm : a.toNat % 2 ^ j = 2 ^ j - 1 := by
        apply Nat.eq_of_testBit_eq
        intro i
        rw [Nat.testBit_mod_two_pow, Nat.testBit_two_pow_sub_one]
        by_cases hi : i < j
        · have := h2 i hi
          rw [BitVec.getLsbD] at this
          simp [hi, this]
        · simp [hi]
      have hb : a.toNat / 2 ^ j % 2 = 0 := by
        have := h3
        rw [BitVec.getLsbD, Nat.testBit_eq_decide_div_mod_eq] at this
        simp at this
        omega
      have hd := Nat.div_add_mod a.toNat (2 ^ j)
      have hq := Nat.div_add_mod (a.toNat / 2 ^ j) 2
      have hp := Nat.two_pow_pos j
      have hpj : 2 ^ (j + 1) ≤ 2 ^ 64 := Nat.pow_le_pow_right (by decide) (by omega)
      have hj2 : 2 ^ (j + 1) = 2 ^ j * 2 := Nat.pow_succ 2 j
      have al := a.isLt
      have e1 : a.toNat + 1 = 2 ^ j * (a.toNat / 2 ^ j + 1) := by rw [Nat.mul_add, Nat.mul_one]; omega
      have hlt : a.toNat + 1 < 2 ^ 64 := by
        apply Nat.lt_of_le_of_ne (by omega)
        intro e
        have : a.toNat = 2 ^ 64 - 1 := by omega
        have h4 := h3
        rw [BitVec.getLsbD, this, Nat.testBit_two_pow_sub_one] at h4
        simp at h4
        omega
      apply BitVec.eq_of_getLsbD_eq
      intro i hi
      have ea : (a + 1#64).getLsbD i = (a.toNat + 1).testBit i := by
        rw [BitVec.getLsbD, BitVec.toNat_add]
        show ((a.toNat + 1) % 2 ^ 64).testBit i = _
        rw [Nat.mod_eq_of_lt hlt]
      rw [BitVec.getLsbD_and, BitVec.getLsbD_not, ea, e1, BitVec.getLsbD_shiftLeft, Nat.testBit_two_pow_mul]
      rcases Nat.lt_trichotomy i j with q | q | q
      · simp [show ¬ j ≤ i by omega, q]
      · subst q
        rw [h3]
        have : (a.toNat / 2 ^ i + 1).testBit 0 = true := by rw [Nat.testBit_zero]; simp; omega
        simp [this, hi]
      · have e2 : (a.toNat / 2 ^ j + 1).testBit (i - j) = (a.toNat / 2 ^ j).testBit (i - j) := by
          obtain ⟨r, hr⟩ : ∃ r, i - j = r + 1 := ⟨i - j - 1, by omega⟩
          rw [hr, Nat.testBit_succ, Nat.testBit_succ]
          congr 1
          omega
        have e3 : (a.toNat / 2 ^ j).testBit (i - j) = a.getLsbD i := by
          rw [BitVec.getLsbD, Nat.testBit_div_two_pow, show i - j + j = i by omega]
        rw [e2, e3]
        have : ¬ i - j = 0 := by omega
        simp [show j ≤ i by omega, hi, this, show ¬ i < j by omega]
    unfold lrun
    rw [key, bm_shl]
  · refine ⟨64, Nat.le_refl _, ?_, h, fun q => absurd q (Nat.lt_irrefl _)⟩
    have : a = BitVec.allOnes 64 := by
      apply BitVec.eq_of_getLsbD_eq
      intro i hi
      rw [h i hi, BitVec.getLsbD_allOnes]
      simp [hi]
    subst this
    decide
