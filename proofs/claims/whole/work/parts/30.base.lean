/-! PHASE B, base. Ints are nI of numbers, longs are jL of bit vectors. -/
def jL (v : BitVec 64) : Int64 := Int64.ofBitVec v
theorem jL_tb (v : BitVec 64) : (jL v).toBitVec = v := rfl
theorem jL_of (x : Int64) : ∃ v, x = jL v := ⟨x.toBitVec, rfl⟩
theorem jL_inj {a b : BitVec 64} : jL a = jL b ↔ a = b := ⟨fun h => congrArg Int64.toBitVec h, fun h => congrArg jL h⟩
theorem tb_inj {x y : Int64} (h : x.toBitVec = y.toBitVec) : x = y := Int64.toBitVec_inj.mp h
theorem jL_add (a b : BitVec 64) : jL a + jL b = jL (a + b) := rfl
theorem jL_sub (a b : BitVec 64) : jL a - jL b = jL (a - b) := rfl
theorem jL_mul (a b : BitVec 64) : jL a * jL b = jL (a * b) := rfl
theorem jL_neg (a : BitVec 64) : -jL a = jL (-a) := rfl
theorem jL_and (a b : BitVec 64) : jL a &&& jL b = jL (a &&& b) := rfl
theorem jL_or (a b : BitVec 64) : jL a ||| jL b = jL (a ||| b) := rfl
theorem jL_xor (a b : BitVec 64) : jL a ^^^ jL b = jL (a ^^^ b) := rfl
theorem jL_0 : (0 : Int64) = jL 0#64 := rfl
theorem jL_1 : (1 : Int64) = jL 1#64 := rfl
theorem jL_m1 : (-1 : Int64) = jL (BitVec.allOnes 64) := by decide
theorem jL_min : (-9223372036854775808 : Int64) = jL (BitVec.intMin 64) := by decide
theorem tb_c : ∀ k, k < 64 → ((nI k).toInt64 &&& 63).toBitVec.smod 64 = BitVec.ofNat 64 k := by decide +kernel
theorem tb_cu : ∀ k, k < 64 → ((nI k).toInt64.toUInt64 &&& Int64.toUInt64 63) = UInt64.ofNat k := by decide +kernel
theorem ofNat64 {k : Nat} (h : k < 64) : (BitVec.ofNat 64 k).toNat = k := by rw [BitVec.toNat_ofNat]; exact Nat.mod_eq_of_lt (by omega)
theorem jL_shl (a : BitVec 64) {k : Nat} (hk : k < 64) : jlshl (jL a) (nI k) = jL (a <<< k) := by
  apply tb_inj
  rw [Int64.toBitVec_shiftLeft, tb_c k hk, BitVec.shiftLeft_eq', ofNat64 hk]
  rfl
theorem jL_sshr (a : BitVec 64) {k : Nat} (hk : k < 64) : jlshr (jL a) (nI k) = jL (a.sshiftRight k) := by
  apply tb_inj
  rw [Int64.toBitVec_shiftRight, tb_c k hk, BitVec.sshiftRight', ofNat64 hk]
  rfl
theorem jL_ushr (a : BitVec 64) {k : Nat} (hk : k < 64) : jlushr (jL a) (nI k) = jL (a >>> k) := by
  show (_ : UInt64).toInt64 = _
  rw [tb_cu k hk]
  apply tb_inj
  show ((jL a).toUInt64 >>> UInt64.ofNat k).toBitVec = _
  rw [UInt64.toBitVec_shiftRight]
  show (jL a).toUInt64.toBitVec >>> ((UInt64.ofNat k).toBitVec % 64) = _
  have h : (UInt64.ofNat k).toBitVec % 64 = BitVec.ofNat 64 k := by
    apply BitVec.eq_of_toNat_eq
    rw [BitVec.toNat_umod, ofNat64 hk]
    show (BitVec.ofNat 64 k).toNat % 64 = k
    rw [ofNat64 hk, Nat.mod_eq_of_lt hk]
  rw [h, BitVec.ushiftRight_eq', ofNat64 hk]
  rfl
theorem jL_lt (a b : BitVec 64) : jL a < jL b ↔ a.slt b = true := Iff.rfl
theorem jL_le (a b : BitVec 64) : jL a ≤ jL b ↔ a.sle b = true := Iff.rfl
/-- without signs -/
theorem jL_ult (a b : BitVec 64) : (jL a + (-9223372036854775808) < jL b + (-9223372036854775808)) ↔ a.toNat < b.toNat := by
  rw [jL_min, jL_add, jL_add, jL_lt, BitVec.slt, decide_eq_true_iff]
  have h : ∀ v : BitVec 64, (v + BitVec.intMin 64).toInt = (v.toNat : Int) - 9223372036854775808 := by
    intro v
    have := v.isLt
    rw [BitVec.toInt_eq_toNat_cond, BitVec.toNat_add]
    have h2 : (BitVec.intMin 64).toNat = 9223372036854775808 := by decide
    rw [h2]
    by_cases hv : v.toNat < 9223372036854775808
    · rw [Nat.mod_eq_of_lt (by omega), if_neg (by omega)]
      omega
    · have h3 : (v.toNat + 9223372036854775808) % 2 ^ 64 = v.toNat - 9223372036854775808 := by omega
      rw [h3, if_pos (by omega)]
      omega
  rw [h, h]
  omega
/-- the lowest bits -/
def bm (w : Nat) : BitVec 64 := BitVec.ofNat 64 (2 ^ w - 1)
theorem bm_nat {w : Nat} (h : w ≤ 64) : (bm w).toNat = 2 ^ w - 1 := by
  unfold bm
  rw [BitVec.toNat_ofNat]
  have : 2 ^ w ≤ 2 ^ 64 := Nat.pow_le_pow_right (by decide) h
  exact Nat.mod_eq_of_lt (by omega)
theorem bm_bit (w i : Nat) : (bm w).getLsbD i = (decide (i < w) && decide (i < 64)) := by
  unfold bm
  rw [BitVec.getLsbD_ofNat, Nat.testBit_two_pow_sub_one, Bool.and_comm]
theorem bm_64 : bm 64 = BitVec.allOnes 64 := by decide
theorem bm_shl {w : Nat} : (1#64 <<< w) - 1#64 = bm w := by
  apply BitVec.eq_of_toNat_eq
  unfold bm
  rw [BitVec.toNat_sub, BitVec.toNat_shiftLeft, BitVec.toNat_ofNat, BitVec.toNat_ofNat, Nat.shiftLeft_eq, Nat.one_mod_two_pow (by decide), Nat.one_mul]
  have := Nat.one_le_two_pow (n := w)
  omega
theorem and_bm (v : BitVec 64) {w : Nat} (h : w ≤ 64) : (v &&& bm w).toNat = v.toNat % 2 ^ w := by
  rw [BitVec.toNat_and, bm_nat h, Nat.and_two_pow_sub_one_eq_mod]
section PURE
variable {Q : xO → xS → Prop} {KI : Int32 → xS → Prop} {KL : Int64 → xS → Prop} {KV : xS → Prop} {T : Nat → xS → Prop} {σ : xS}
theorem p_mask {w : Nat} (h : w ≤ 64) (k : Q (.inl (some (.long (jL (bm w))))) σ) : wp_Words_mask Q σ (nI w) := by
  have e : nI w < 64 ↔ w < 64 := nI_ltI (b := 64) (by omega) (by decide)
  refine ⟨fun z => ?_, fun z => ?_⟩
  · have hw := e.mp z
    rw [jL_1, jL_shl _ hw, jL_sub, bm_shl]
    exact k
  · have hw : w = 64 := by
      have := mt e.mpr z
      omega
    subst hw
    rw [jL_m1, ← bm_64]
    exact k
end PURE
