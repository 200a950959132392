/-! THE REFERENCE'S WORDS -/
theorem xor_pow {n p : Nat} (h : n < 2 ^ (p + 1)) : n ^^^ 2 ^ p = if n < 2 ^ p then n + 2 ^ p else n - 2 ^ p := by
  have base : ∀ m, m < 2 ^ p → m ^^^ 2 ^ p = m + 2 ^ p := by
    intro m hm
    rw [Nat.add_comm]
    apply Nat.eq_of_testBit_eq
    intro i
    rw [Nat.testBit_xor, Nat.testBit_two_pow]
    rcases Nat.lt_trichotomy i p with q | q | q
    · rw [Nat.testBit_two_pow_add_gt q, decide_eq_false (by omega), Bool.xor_false]
    · subst q
      rw [Nat.testBit_two_pow_add_eq, decide_eq_true rfl, Bool.xor_true]
    · have l1 : 2 ^ p + m < 2 ^ i := by
        have : 2 ^ (p + 1) ≤ 2 ^ i := Nat.pow_le_pow_right (by decide) q
        have : 2 ^ (p + 1) = 2 ^ p * 2 := Nat.pow_succ 2 p
        omega
      rw [Nat.testBit_lt_two_pow l1, Nat.testBit_lt_two_pow (show m < 2 ^ i by omega), decide_eq_false (by omega)]
      rfl
  by_cases e : n < 2 ^ p
  · rw [if_pos e, base n e]
  · rw [if_neg e]
    have hp : 2 ^ (p + 1) = 2 ^ p * 2 := Nat.pow_succ 2 p
    have e2 : n = (n - 2 ^ p) ^^^ 2 ^ p := by rw [base _ (by omega)]; omega
    have e3 : n ^^^ 2 ^ p = ((n - 2 ^ p) ^^^ 2 ^ p) ^^^ 2 ^ p := by rw [← e2]
    rw [e3, Nat.xor_assoc, Nat.xor_self, Nat.xor_zero]
theorem xor_min (a : BitVec 64) : a ^^^ BitVec.intMin 64 = a + BitVec.intMin 64 := by
  apply BitVec.eq_of_toNat_eq
  have h2 : (BitVec.intMin 64).toNat = 2 ^ 63 := by decide
  have := a.isLt
  rw [BitVec.toNat_xor, BitVec.toNat_add, h2, xor_pow (by omega)]
  split <;> omega
/-- a number with its sign -/
theorem sgn_int {a : BitVec 64} {w : Nat} (h1 : 1 ≤ w) (h2 : w ≤ 64) (ha : a.toNat < 2 ^ w) : (sgn a w).toInt = ((a ^^^ (1#64 <<< (w - 1))).toNat : Int) - (2 ^ (w - 1) : Nat) := by
  have hT : (1#64 <<< (w - 1)).toNat = 2 ^ (w - 1) := by
    rw [BitVec.toNat_shiftLeft, Nat.shiftLeft_eq]
    have : 2 ^ (w - 1) < 2 ^ 64 := Nat.pow_lt_pow_right (by decide) (by omega)
    show 1 * 2 ^ (w - 1) % 2 ^ 64 = _
    rw [Nat.one_mul]
    exact Nat.mod_eq_of_lt this
  have hw : 2 ^ w = 2 ^ (w - 1) * 2 := by rw [← Nat.pow_succ, show (w - 1).succ = w by omega]
  have hx : (a <<< (64 - w)).toNat = a.toNat * 2 ^ (64 - w) := by
    rw [BitVec.toNat_shiftLeft, Nat.shiftLeft_eq]
    refine Nat.mod_eq_of_lt ?_
    have h3 : 2 ^ w * 2 ^ (64 - w) = 2 ^ 64 := by rw [← Nat.pow_add, show w + (64 - w) = 64 by omega]
    rw [← h3]
    exact (Nat.mul_lt_mul_right (Nat.two_pow_pos _)).mpr ha
  have h64 : 2 ^ (w - 1) * 2 ^ (64 - w) = 2 ^ 63 := by rw [← Nat.pow_add, show w - 1 + (64 - w) = 63 by omega]
  have hxi : (a <<< (64 - w)).toInt = (if a.toNat < 2 ^ (w - 1) then (a.toNat : Int) else (a.toNat : Int) - (2 ^ w : Nat)) * (2 ^ (64 - w) : Nat) := by
    rw [BitVec.toInt_eq_toNat_cond, hx]
    by_cases e : a.toNat < 2 ^ (w - 1)
    · rw [if_pos e, if_pos]
      · rw [Int.natCast_mul]
      · have : a.toNat * 2 ^ (64 - w) < 2 ^ 63 := by rw [← h64]; exact (Nat.mul_lt_mul_right (Nat.two_pow_pos _)).mpr e
        omega
    · rw [if_neg e, if_neg]
      · rw [Int.natCast_mul, Int.sub_mul]
        congr 1
        rw [← Int.natCast_mul, hw, Nat.mul_assoc, Nat.mul_comm 2, ← Nat.mul_assoc, h64]
      · have : 2 ^ 63 ≤ a.toNat * 2 ^ (64 - w) := by rw [← h64]; exact Nat.mul_le_mul_right _ (by omega)
        omega
  unfold sgn
  rw [BitVec.toInt_sshiftRight, hxi, Int.shiftRight_eq_div_pow, Int.mul_ediv_cancel _ (by have := Nat.two_pow_pos (64 - w); omega)]
  rw [BitVec.toNat_xor, hT, xor_pow (by rw [show w - 1 + 1 = w by omega]; exact ha)]
  by_cases e : a.toNat < 2 ^ (w - 1)
  · rw [if_pos e, if_pos e]; omega
  · rw [if_neg e, if_neg e]; omega
section RW
variable {Q : xO → xS → Prop} {σ : xS}
theorem r_signed {a : BitVec 64} {w : Nat} (h1 : 1 ≤ w) (h2 : w ≤ 64) (k : Q (.inl (some (.long (jL (sgn a w))))) σ) : wp_VectorSolverModel_signed Q σ (jL a) (nI w) := by
  unfold wp_VectorSolverModel_signed
  rw [show (64 : Int32) = nI 64 from rfl, nI_sub h2, jL_shl _ (by omega), jL_sshr _ (by omega)]
  exact k
theorem r_below {a b : BitVec 64} (k : Q (.inl (some (.int (bI (ltB a b))))) σ) : wp_VectorSolverModel_isBelow Q σ (jL a) (jL b) := by
  unfold wp_VectorSolverModel_isBelow
  rw [jL_min, jL_xor, jL_xor, xor_min, xor_min, ← jL_add, ← jL_add, ← jL_min, lg_cmp_ge]
  refine ⟨fun z => ?_, fun z => ?_⟩
  · have : ltB a b = false := decide_eq_false (fun q => by
      have := (jL_ult a b).mpr q
      rw [Int64.lt_iff_toInt_lt] at this
      rw [Int64.le_iff_toInt_le] at z
      omega)
    rw [this] at k
    exact k
  · have : ltB a b = true := decide_eq_true ((jL_ult a b).mp (by
      rw [Int64.lt_iff_toInt_lt]
      rw [Int64.le_iff_toInt_le] at z
      omega))
    rw [this] at k
    exact k
theorem r_mask {w : Nat} (h : w ≤ 64) (k : Q (.inl (some (.long (jL (bm (if w = 0 then 1 else w)))))) σ) : wp_VectorSolverModel_mask Q σ (nI w) := by
  unfold wp_VectorSolverModel_mask
  simp (disch := omega) only [i32_lit, l64_lit, lc_eq, lc_ge, lc_le, lc_gt, lc_lt, jL_inj, jL_add, jL_sub, jL_mul, jL_neg, jL_and, jL_or, jL_xor, jL_mone, BitVec.xor_allOnes, nI_clamp, nI_ltI, nI_leI, nI_eq, nI_1, nI_add, nI_sub, nI_addm, nI_mul, vp_in_n, xi_pi, xi_pl, xl_pi, xl_pl, xb_pi, xb_pl, xqi_i, xql_l, xqv_v, xqi_e, xql_e, xqv_e, forall_eq, true_and, and_true]
  refine ⟨fun z => ⟨fun z2 => ?_, fun z2 => ?_⟩, fun z => ?_⟩
  · rw [jL_shl _ (by omega), jL_sub, bm_shl]
    rw [if_neg z] at k
    exact k
  · rw [if_neg z, z2, bm_64] at k
    exact k
  · rw [if_pos z] at k
    exact k
/-- a step of the long division -/
theorem div_step {n b c : Nat} (hb : 0 < b) (hc : c < 2) : (2 * n + c) / b = 2 * (n / b) + (if b ≤ 2 * (n % b) + c then 1 else 0) ∧ (2 * n + c) % b = (if b ≤ 2 * (n % b) + c then 2 * (n % b) + c - b else 2 * (n % b) + c) := by
  have h1 := Nat.div_add_mod n b
  have h2 := Nat.mod_lt n hb
  have e : 2 * n + c = (2 * (n % b) + c) + b * (2 * (n / b)) := by
    rw [Nat.mul_left_comm b 2]
    omega
  rw [e, Nat.add_mul_div_left _ _ hb, Nat.add_mul_mod_self_left]
  by_cases q : b ≤ 2 * (n % b) + c
  · rw [if_pos q, if_pos q]
    have e2 : 2 * (n % b) + c = (2 * (n % b) + c - b) + b * 1 := by omega
    have l : 2 * (n % b) + c - b < b := by omega
    constructor
    · rw [e2, Nat.add_mul_div_left _ _ hb, Nat.div_eq_of_lt l]
      omega
    · rw [e2, Nat.add_mul_mod_self_left, Nat.mod_eq_of_lt l]
      omega
  · rw [if_neg q, if_neg q, Nat.div_eq_of_lt (by omega), Nat.mod_eq_of_lt (by omega)]
    omega
theorem sgn_ge (a : BitVec 64) : (0 ≤ lg_cmp (jL a) 0) = (a.toNat < 2 ^ 63) := by
  apply propext
  rw [lg_cmp_ge, jL_0]
  constructor
  · intro z
    apply Nat.not_le.mp
    intro q
    have := (slt_0 a).mpr q
    rw [← jL_lt, Int64.lt_iff_toInt_lt] at this
    rw [Int64.le_iff_toInt_le] at z
    omega
  · intro z
    rw [Int64.le_iff_toInt_le]
    apply Int.not_lt.mp
    intro q
    have := (slt_0 a).mp (by rw [← jL_lt, Int64.lt_iff_toInt_lt]; exact q)
    omega
theorem jge0 (a : BitVec 64) : (jL 0#64 ≤ jL a) = (a.toNat < 2 ^ 63) := by
  rw [← sgn_ge, lg_cmp_ge]
  rfl
end RW
