/-! masks as numbers -/
def nd (a b : Nat) : Nat := a ^^^ (a &&& b)
theorem nd_bit (a b i : Nat) : (nd a b).testBit i = (a.testBit i && !b.testBit i) := by
  unfold nd
  rw [Nat.testBit_xor, Nat.testBit_and]
  cases a.testBit i <;> cases b.testBit i <;> rfl
theorem nd_lt {a b n : Nat} (h : a < 2 ^ n) : nd a b < 2 ^ n := Nat.xor_lt_two_pow h (Nat.lt_of_le_of_lt Nat.and_le_left h)
theorem neg1_bits : (-nI 1).toBitVec = BitVec.allOnes 32 := by decide
theorem nI_nd {a b : Nat} (ha : a < 4294967296) (hb : b < 4294967296) : nI a &&& (nI b ^^^ -nI 1) = nI (nd a b) := by
  apply Int32.toBitVec_inj.mp
  rw [Int32.toBitVec_and, Int32.toBitVec_xor, neg1_bits, BitVec.xor_allOnes]
  apply BitVec.eq_of_getLsbD_eq
  intro i hi
  rw [BitVec.getLsbD_and, BitVec.getLsbD_not, nI_tb, nI_tb, nI_tb, BitVec.getLsbD_ofNat, BitVec.getLsbD_ofNat, BitVec.getLsbD_ofNat, nd_bit]
  simp [hi]
theorem nI_neg2 : ∀ p, p < 31 → -nI (2 ^ p) = nI (2 ^ p - 1) ^^^ -nI 1 := by decide +kernel
theorem and_pow0 {a p : Nat} : a &&& 2 ^ p = 0 ↔ a.testBit p = false := by
  constructor
  · intro h
    have := congrArg (fun x => x.testBit p) h
    simp only [Nat.testBit_and, Nat.testBit_two_pow_self, Bool.and_true, Nat.zero_testBit] at this
    exact this
  · intro h
    apply Nat.eq_of_testBit_eq
    intro i
    rw [Nat.testBit_and, Nat.testBit_two_pow, Nat.zero_testBit]
    by_cases e : p = i
    · rw [← e, h]; rfl
    · simp [e]
theorem nI_tst {a p : Nat} (ha : a < 4294967296) (hp : p < 31) : (nI a &&& nI (2 ^ p) = nI 0) = (a.testBit p = false) := by
  have h2 : 2 ^ p < 2 ^ 31 := Nat.pow_lt_pow_right (by decide) hp
  have h3 : a &&& 2 ^ p < 2 ^ 31 := Nat.and_lt_two_pow _ h2
  rw [nI_and ha (by omega), nI_eq (by omega) (by decide), and_pow0]
theorem lt_bits {a n : Nat} (h : a < 2 ^ n) {i : Nat} (hi : n ≤ i) : a.testBit i = false := Nat.testBit_lt_two_pow (Nat.lt_of_lt_of_le h (Nat.pow_le_pow_right (by decide) hi))
theorem bits_lt2 {a n : Nat} (h : ∀ i, n ≤ i → a.testBit i = false) : a < 2 ^ n := Nat.lt_pow_two_of_testBit _ (fun i hi => h i hi)
/-- the next number with bit p: bits below are cleared, p is set -/
def nxt (a p : Nat) : Nat := nd (a ||| 2 ^ p) (2 ^ p - 1)
theorem nxt_bit (a p i : Nat) : (nxt a p).testBit i = (decide (p ≤ i) && (a.testBit i || decide (i = p))) := by
  unfold nxt
  rw [nd_bit, Nat.testBit_or, Nat.testBit_two_pow, Nat.testBit_two_pow_sub_one]
  by_cases e : i < p
  · simp [e, show ¬ p ≤ i by omega]
  · simp [e, show p ≤ i by omega]
    by_cases q : i = p
    · simp [q]
    · simp [q, show ¬ p = i by omega]
theorem nxt_eq {a p : Nat} (h : a.testBit p = false) : nxt a p = (a / 2 ^ p + 1) * 2 ^ p := by
  have ev : a / 2 ^ p % 2 = 0 := by
    rw [Nat.testBit_eq_decide_div_mod_eq] at h
    simp at h
    omega
  apply Nat.eq_of_testBit_eq
  intro i
  rw [nxt_bit, Nat.testBit_mul_two_pow]
  by_cases e : p ≤ i
  · rw [decide_eq_true e, Bool.true_and, Bool.true_and]
    by_cases q : i = p
    · subst q
      rw [Nat.sub_self, Nat.testBit_zero]
      simp
      omega
    · obtain ⟨r, hr⟩ : ∃ r, i - p = r + 1 := ⟨i - p - 1, by omega⟩
      rw [hr, Nat.testBit_succ, show (a / 2 ^ p + 1) / 2 = a / 2 ^ p / 2 by omega, ← Nat.testBit_succ, Nat.testBit_div_two_pow, show r.succ + p = i by omega]
      simp [q]
  · rw [decide_eq_false e]
    rfl
theorem nxt_gt {a p : Nat} (h : a.testBit p = false) : a < nxt a p := by
  rw [nxt_eq h]
  have := Nat.div_add_mod a (2 ^ p)
  have := Nat.mod_lt a (Nat.two_pow_pos p)
  rw [Nat.add_mul, Nat.one_mul, Nat.mul_comm]
  omega
theorem nxt_between {a p J : Nat} (h : a.testBit p = false) (h1 : a ≤ J) (h2 : J < nxt a p) : ∀ i, p ≤ i → J.testBit i = a.testBit i := by
  rw [nxt_eq h] at h2
  have q1 : J / 2 ^ p < a / 2 ^ p + 1 := Nat.div_lt_of_lt_mul (by rw [Nat.mul_comm]; exact h2)
  have q2 : a / 2 ^ p ≤ J / 2 ^ p := Nat.div_le_div_right h1
  have q3 : J / 2 ^ p = a / 2 ^ p := by omega
  intro i hi
  have := congrArg (fun x => x.testBit (i - p)) q3
  simp only [Nat.testBit_div_two_pow, show i - p + p = i by omega] at this
  exact this
theorem land_eq {J m h : Nat} : J &&& m = h ↔ ∀ i, (J.testBit i && m.testBit i) = h.testBit i := by
  constructor
  · intro e i
    rw [← e, Nat.testBit_and]
  · intro e
    apply Nat.eq_of_testBit_eq
    intro i
    rw [Nat.testBit_and]
    exact e i
