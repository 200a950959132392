/-! more of ints and words -/
theorem nI_or {a b : Nat} (ha : a < 4294967296) (hb : b < 4294967296) : nI a ||| nI b = nI (a ||| b) := by
  apply nI_inj
  rw [Int32.toBitVec_or, BitVec.toNat_or, nI_tb, nI_tb, nI_tb, BitVec.toNat_ofNat, BitVec.toNat_ofNat, BitVec.toNat_ofNat, Nat.mod_eq_of_lt ha, Nat.mod_eq_of_lt hb, Nat.mod_eq_of_lt (Nat.or_lt_two_pow (n := 32) ha hb)]
theorem nI_and {a b : Nat} (ha : a < 4294967296) (hb : b < 4294967296) : nI a &&& nI b = nI (a &&& b) := by
  apply nI_inj
  rw [Int32.toBitVec_and, BitVec.toNat_and, nI_tb, nI_tb, nI_tb, BitVec.toNat_ofNat, BitVec.toNat_ofNat, BitVec.toNat_ofNat, Nat.mod_eq_of_lt ha, Nat.mod_eq_of_lt hb, Nat.mod_eq_of_lt (Nat.and_lt_two_pow (n := 32) _ hb)]
theorem nI_xor {a b : Nat} (ha : a < 4294967296) (hb : b < 4294967296) : nI a ^^^ nI b = nI (a ^^^ b) := by
  apply nI_inj
  rw [Int32.toBitVec_xor, BitVec.toNat_xor, nI_tb, nI_tb, nI_tb, BitVec.toNat_ofNat, BitVec.toNat_ofNat, BitVec.toNat_ofNat, Nat.mod_eq_of_lt ha, Nat.mod_eq_of_lt hb, Nat.mod_eq_of_lt (Nat.xor_lt_two_pow (n := 32) ha hb)]
def bcI (a : Int32) : Int32 :=
  let x1 := a - ((jiushr a 1) &&& 1431655765)
  let x2 := (x1 &&& 858993459) + ((jiushr x1 2) &&& 858993459)
  let x3 := (x2 + (jiushr x2 4)) &&& 252645135
  let x4 := x3 + (jiushr x3 8)
  let x5 := x4 + (jiushr x4 16)
  x5 &&& 63
def tzI (a : Int32) : Int32 := bcI ((a &&& -a) - 1)
theorem bcI_bm : ∀ j, j < 33 → bcI (Int32.ofBitVec (BitVec.ofNat 32 (2 ^ j - 1))) = nI j := by decide +kernel
theorem tz_le (a : Int32) : ∃ z, z ≤ 32 ∧ tzI a = nI z := by
  have hj := lrun_spec (~~~ (a.toBitVec.setWidth 64))
  obtain ⟨j, h1, h2, -⟩ := hj
  have e : ((a &&& -a) - 1).toBitVec = BitVec.ofNat 32 (2 ^ min j 32 - 1) := by
    have e1 : lrun (~~~ (a.toBitVec.setWidth 64)) = ((a.toBitVec.setWidth 64) &&& -(a.toBitVec.setWidth 64)) - 1#64 := by
      unfold lrun
      rw [BitVec.not_not, BitVec.neg_eq_not_add (a.toBitVec.setWidth 64)]
    have e2 : ((a &&& -a) - 1).toBitVec = (((a.toBitVec.setWidth 64) &&& -(a.toBitVec.setWidth 64)) - 1#64).setWidth 32 := by
      rw [BitVec.sub_eq_add_neg, BitVec.setWidth_add _ _ (by decide), BitVec.setWidth_and, BitVec.setWidth_neg_of_le (by decide)]
      have e3 : (a.toBitVec.setWidth 64).setWidth 32 = a.toBitVec := by
        apply BitVec.eq_of_toNat_eq
        rw [BitVec.toNat_setWidth, BitVec.toNat_setWidth]
        have := a.toBitVec.isLt
        omega
      rw [e3]
      show (a.toBitVec &&& -a.toBitVec) - 1#32 = _
      rw [BitVec.sub_eq_add_neg]
      rfl
    rw [e2, ← e1, h2]
    apply BitVec.eq_of_getLsbD_eq
    intro i hi
    rw [BitVec.getLsbD_setWidth, bm_bit, BitVec.getLsbD_ofNat, Nat.testBit_two_pow_sub_one]
    have h3 : decide (i < min j 32) = decide (i < j) := by
      apply decide_eq_decide.mpr
      rw [Nat.lt_min]
      omega
    rw [h3, decide_eq_true (show i < 64 by omega)]
    simp [hi]
  refine ⟨min j 32, by omega, ?_⟩
  unfold tzI
  rw [show ((a &&& -a) - 1) = Int32.ofBitVec ((a &&& -a) - 1).toBitVec from rfl, e]
  exact bcI_bm _ (by omega)
section WRD
variable {Q : xO → xS → Prop} {σ : xS}
theorem p_bitCountI {a : Int32} (k : Q (.inl (some (.int (bcI a)))) σ) : wp_Integer_bitCount Q σ a := by
  intro x1 e1 x2 e2 x3 e3 x4 e4 x5 e5
  subst e1 e2 e3 e4 e5
  exact k
theorem p_tz {a : Int32} (k : Q (.inl (some (.int (tzI a)))) σ) : wp_Words_trailingZeros Q σ a := by
  unfold wp_Words_trailingZeros
  exact p_bitCountI k
/-- all bits up to the highest 1 -/
def upT (a : BitVec 64) : BitVec 64 :=
  let x1 := a ||| (a >>> 1)
  let x2 := x1 ||| (x1 >>> 2)
  let x3 := x2 ||| (x2 >>> 4)
  let x4 := x3 ||| (x3 >>> 8)
  let x5 := x4 ||| (x4 >>> 16)
  x5 ||| (x5 >>> 32)
theorem smear {a y : BitVec 64} {m : Nat} (h : ∀ i, y.getLsbD i = true ↔ ∃ d, d < m ∧ a.getLsbD (i + d) = true) : ∀ i, (y ||| (y >>> m)).getLsbD i = true ↔ ∃ d, d < m + m ∧ a.getLsbD (i + d) = true := by
  intro i
  rw [BitVec.getLsbD_or, Bool.or_eq_true, BitVec.getLsbD_ushiftRight, h i, h (m + i)]
  constructor
  · rintro (⟨d, h1, h2⟩ | ⟨d, h1, h2⟩)
    · exact ⟨d, by omega, h2⟩
    · exact ⟨m + d, by omega, by rw [show i + (m + d) = m + i + d by omega]; exact h2⟩
  · rintro ⟨d, h1, h2⟩
    by_cases e : d < m
    · exact Or.inl ⟨d, e, h2⟩
    · exact Or.inr ⟨d - m, by omega, by rw [show m + i + (d - m) = i + d by omega]; exact h2⟩
theorem upT_bit {a : BitVec 64} {i : Nat} : (upT a).getLsbD i = true ↔ ∃ j, i ≤ j ∧ a.getLsbD j = true := by
  have s0 : ∀ i, a.getLsbD i = true ↔ ∃ d, d < 1 ∧ a.getLsbD (i + d) = true := fun i => ⟨fun h => ⟨0, by omega, h⟩, fun ⟨d, h1, h2⟩ => by rw [show d = 0 by omega] at h2; exact h2⟩
  have s := smear (smear (smear (smear (smear (smear s0))))) i
  have s : (upT a).getLsbD i = true ↔ ∃ d, d < 64 ∧ a.getLsbD (i + d) = true := s
  rw [s]
  constructor
  · rintro ⟨d, h1, h2⟩
    exact ⟨i + d, by omega, h2⟩
  · rintro ⟨j, h1, h2⟩
    have : j < 64 := by
      apply Classical.byContradiction
      intro q
      rw [BitVec.getLsbD_of_ge _ _ (by omega)] at h2
      cases h2
    exact ⟨j - i, by omega, by rw [show i + (j - i) = j by omega]; exact h2⟩
theorem p_upTo {a : BitVec 64} (k : Q (.inl (some (.long (jL (upT a))))) σ) : wp_Words_upToHighest Q σ (jL a) := by
  intro x1 e1 x2 e2 x3 e3 x4 e4 x5 e5
  have sh : ∀ (v : BitVec 64) (m : Nat), m < 64 → jL v ||| jlushr (jL v) (nI m) = jL (v ||| (v >>> m)) := fun v m hm => by rw [jL_ushr _ hm]; rfl
  rw [show (1 : Int32) = nI 1 from rfl, sh a 1 (by decide)] at e1
  rw [e1, show (2 : Int32) = nI 2 from rfl, sh _ 2 (by decide)] at e2
  rw [e2, show (4 : Int32) = nI 4 from rfl, sh _ 4 (by decide)] at e3
  rw [e3, show (8 : Int32) = nI 8 from rfl, sh _ 8 (by decide)] at e4
  rw [e4, show (16 : Int32) = nI 16 from rfl, sh _ 16 (by decide)] at e5
  have e6 : x5 ||| jlushr x5 32 = jL (upT a) := by rw [e5, show (32 : Int32) = nI 32 from rfl, sh _ 32 (by decide)]; rfl
  rw [e6]
  exact k
end WRD
