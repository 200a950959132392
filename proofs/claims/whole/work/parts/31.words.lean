/-! the class's pure words -/
theorem jL_div (a b : BitVec 64) : jL a / jL b = jL (a.sdiv b) := rfl
theorem jL_eq0 (a b : BitVec 64) : lg_cmp (jL a) (jL b) = 0 ↔ a = b := by rw [lg_cmp_eq, jL_inj]
/-- a quotient without signs -/
def udiv (a b : BitVec 64) : BitVec 64 := if b = 0#64 then BitVec.allOnes 64 else a / b
theorem sdiv_pos {a b : BitVec 64} (ha : a.toNat < 2 ^ 63) (hb : b.toNat < 2 ^ 63) : a.sdiv b = a / b := by
  rw [BitVec.sdiv_eq]
  have h1 : a.msb = false := by rw [BitVec.msb_eq_false_iff_two_mul_lt]; omega
  have h2 : b.msb = false := by rw [BitVec.msb_eq_false_iff_two_mul_lt]; omega
  rw [h1, h2]
  rfl
theorem slt_0 (a : BitVec 64) : a.slt 0#64 = true ↔ 2 ^ 63 ≤ a.toNat := by
  rw [BitVec.slt, decide_eq_true_iff, BitVec.toInt_eq_toNat_cond]
  have := a.isLt
  have h0 : (0#64).toInt = 0 := by decide
  rw [h0]
  split <;> omega
theorem half_q {a b : Nat} (hb : 0 < b) : a / b = 2 * (a / 2 / b) ∨ a / b = 2 * (a / 2 / b) + 1 := by
  rw [Nat.div_div_eq_div_mul, Nat.mul_comm 2 b, ← Nat.div_div_eq_div_mul]
  omega
section PURE
variable {Q : xO → xS → Prop} {KI : Int32 → xS → Prop} {KL : Int64 → xS → Prop} {KV : xS → Prop} {T : Nat → xS → Prop} {σ : xS}
theorem p_less {a b : BitVec 64} (k : Q (.inl (some (.int (if a.toNat < b.toNat then 1 else 0)))) σ) : wp_Words_less Q σ (jL a) (jL b) := by
  refine ⟨fun z => ?_, fun z => ?_⟩
  · rw [lg_cmp_ge] at z
    have : ¬ a.toNat < b.toNat := fun q => by
      have := (jL_ult a b).mpr q
      rw [Int64.lt_iff_toInt_lt] at this
      rw [Int64.le_iff_toInt_le] at z
      omega
    rw [if_neg this] at k
    exact k
  · rw [lg_cmp_ge] at z
    have : a.toNat < b.toNat := (jL_ult a b).mp (by
      rw [Int64.lt_iff_toInt_lt]
      rw [Int64.le_iff_toInt_le] at z
      omega)
    rw [if_pos this] at k
    exact k
theorem p_lowestRun {a : BitVec 64} (k : Q (.inl (some (.long (jL ((~~~a &&& (a + 1#64)) - 1#64))))) σ) : wp_Words_lowestRun Q σ (jL a) := by
  unfold wp_Words_lowestRun
  rw [jL_m1, jL_1, jL_xor, jL_add, jL_and, jL_sub, BitVec.xor_allOnes]
  exact k
theorem p_quotient {a b : BitVec 64} (k : Q (.inl (some (.long (jL (udiv a b))))) σ) : wp_Words_quotient Q σ (jL a) (jL b) := by
  have al := a.isLt
  have bl := b.isLt
  refine ⟨fun z => ?_, fun z => ?_⟩
  · rw [jL_0, jL_eq0] at z
    have hu : udiv a b = a / b := if_neg z
    have hb0 : b.toNat ≠ 0 := fun q => z (BitVec.eq_of_toNat_eq (by rw [q]; rfl))
    rw [hu] at k
    refine ⟨fun y => ?_, fun y => ?_⟩
    · rw [lg_cmp_ge] at y
      have hb : b.toNat < 2 ^ 63 := by
        apply Nat.not_le.mp
        intro q
        have := (slt_0 b).mpr q
        rw [← jL_lt, Int64.lt_iff_toInt_lt] at this
        rw [Int64.le_iff_toInt_le] at y
        have e : (jL 0#64).toInt = (0 : Int64).toInt := rfl
        omega
      refine ⟨fun q => z (jL_inj.mp q), fun x1 e1 x2 e2 => ?_⟩
      have a1 : (a >>> 1).toNat = a.toNat / 2 := by rw [BitVec.toNat_ushiftRight, Nat.shiftRight_eq_div_pow]
      rw [show (1 : Int32) = nI 1 from rfl, jL_ushr a (by decide), jL_div, sdiv_pos (by omega) hb, jL_shl _ (by decide)] at e1
      generalize hq : (a >>> 1 / b) <<< 1 = q at e1
      have qn : q.toNat = 2 * (a.toNat / 2 / b.toNat) := by
        rw [← hq, BitVec.toNat_shiftLeft, BitVec.toNat_udiv, a1, Nat.shiftLeft_eq]
        have := Nat.div_le_self (a.toNat / 2) b.toNat
        omega
      subst e1
      rw [jL_mul, jL_sub] at e2
      subst e2
      have dn : (a / b).toNat = a.toNat / b.toNat := BitVec.toNat_udiv
      have hh := half_q (a := a.toNat) (b := b.toNat) (by omega)
      have hdm := Nat.div_add_mod a.toNat b.toNat
      have hml := Nat.mod_lt a.toNat (show b.toNat > 0 by omega)
      have hle : q.toNat * b.toNat ≤ a.toNat := by
        rw [qn]
        have h1 : 2 * (a.toNat / 2 / b.toNat) ≤ a.toNat / b.toNat := by omega
        have h2 := Nat.mul_le_mul_right b.toNat h1
        have h3 := Nat.div_mul_le_self a.toNat b.toNat
        omega
      have rn : (a - q * b).toNat = a.toNat - q.toNat * b.toNat := by
        rw [BitVec.toNat_sub, BitVec.toNat_mul, Nat.mod_eq_of_lt (show q.toNat * b.toNat < 2 ^ 64 by omega)]
        omega
      have qa : jL q + 1 = jL (q + 1#64) := rfl
      have up : q.toNat * b.toNat + b.toNat ≤ a.toNat → q + 1#64 = a / b := by
        intro h
        apply BitVec.eq_of_toNat_eq
        rw [dn, BitVec.toNat_add]
        have h1 : (q.toNat + 1) * b.toNat ≤ a.toNat := by rw [Nat.add_mul]; omega
        have h2 := (Nat.le_div_iff_mul_le (show 0 < b.toNat by omega)).mpr h1
        have h3 : (1#64).toNat = 1 := rfl
        have h4 := Nat.div_le_self a.toNat b.toNat
        rw [h3]
        omega
      have dn' : a.toNat < q.toNat * b.toNat + b.toNat → q = a / b := by
        intro h
        apply BitVec.eq_of_toNat_eq
        rw [dn]
        have h1 : a.toNat < (q.toNat + 1) * b.toNat := by rw [Nat.add_mul]; omega
        have h2 := (Nat.div_lt_iff_lt_mul (show 0 < b.toNat by omega)).mpr h1
        omega
      have rlt : a.toNat - q.toNat * b.toNat < 2 * b.toNat := by
        rcases hh with hh | hh <;> rw [← qn] at hh
        · rw [hh, Nat.mul_comm] at hdm
          omega
        · rw [hh, Nat.mul_comm, Nat.add_mul] at hdm
          omega
      refine ⟨fun w => ?_, fun w => ?_⟩
      · rw [lg_cmp_lt, jL_0, jL_lt, slt_0, rn] at w
        rw [qa, up (by omega)]
        exact k
      · rw [lg_cmp_lt, jL_0, jL_lt, slt_0, rn] at w
        have hlt : (jL b ≤ jL (a - q * b)) ↔ b.toNat ≤ a.toNat - q.toNat * b.toNat := by
          rw [jL_le, BitVec.sle, decide_eq_true_iff, BitVec.toInt_eq_toNat_cond, BitVec.toInt_eq_toNat_cond, rn, if_pos (by omega), if_pos (by omega)]
          omega
        refine ⟨fun w2 => ?_, fun w2 => ?_⟩
        · rw [lg_cmp_ge, hlt] at w2
          rw [qa, up (by omega)]
          exact k
        · rw [lg_cmp_ge, hlt] at w2
          rw [dn' (by omega)]
          exact k
    · rw [lg_cmp_ge] at y
      have hb : 2 ^ 63 ≤ b.toNat := by
        rw [← slt_0, ← jL_lt, Int64.lt_iff_toInt_lt]
        rw [Int64.le_iff_toInt_le] at y
        have e : (jL 0#64).toInt = (0 : Int64).toInt := rfl
        omega
      have dn : (a / b).toNat = a.toNat / b.toNat := BitVec.toNat_udiv
      have small : a.toNat < b.toNat → (0 : Int64) = jL (a / b) := by
        intro h
        rw [jL_0, jL_inj]
        apply BitVec.eq_of_toNat_eq
        rw [dn, Nat.div_eq_of_lt h]
        rfl
      have tI : ∀ v : BitVec 64, 2 ^ 63 ≤ v.toNat → v.toInt = (v.toNat : Int) - 2 ^ 64 := by
        intro v hv
        rw [BitVec.toInt_eq_toNat_cond, if_neg (by omega)]
        omega
      refine ⟨fun w => ?_, fun w => ?_⟩
      · have ha : a.toNat < 2 ^ 63 := by
          rw [lg_cmp_ge] at w
          apply Nat.not_le.mp
          intro q
          have := (slt_0 a).mpr q
          rw [← jL_lt, Int64.lt_iff_toInt_lt] at this
          rw [Int64.le_iff_toInt_le] at w
          have e : (jL 0#64).toInt = (0 : Int64).toInt := rfl
          omega
        rw [small (by omega)]
        exact k
      · have ha : 2 ^ 63 ≤ a.toNat := by
          rw [lg_cmp_ge] at w
          rw [← slt_0, ← jL_lt, Int64.lt_iff_toInt_lt]
          rw [Int64.le_iff_toInt_le] at w
          have e : (jL 0#64).toInt = (0 : Int64).toInt := rfl
          omega
        have hlt : (jL a < jL b) ↔ a.toNat < b.toNat := by
          rw [jL_lt, BitVec.slt, decide_eq_true_iff, tI a ha, tI b hb]
          omega
        refine ⟨fun w2 => ?_, fun w2 => ?_⟩
        · rw [lg_cmp_lt, hlt] at w2
          rw [small w2]
          exact k
        · rw [lg_cmp_lt, hlt] at w2
          have : (1 : Int64) = jL (a / b) := by
            rw [jL_1, jL_inj]
            apply BitVec.eq_of_toNat_eq
            rw [dn]
            have h1 : a.toNat / b.toNat < 2 := (Nat.div_lt_iff_lt_mul (by omega)).mpr (by omega)
            have h2 : 1 ≤ a.toNat / b.toNat := (Nat.le_div_iff_mul_le (by omega)).mpr (by omega)
            have h3 : (1#64).toNat = 1 := rfl
            omega
          rw [this]
          exact k
  · rw [jL_0, jL_eq0] at z
    have hu : udiv a b = BitVec.allOnes 64 := if_pos z
    rw [jL_m1, ← hu]
    exact k
/-- the number with a sign that the lowest bits are -/
def sgn (a : BitVec 64) (w : Nat) : BitVec 64 := (a <<< (64 - w)).sshiftRight (64 - w)
theorem p_signed {a : BitVec 64} {w : Nat} (h1 : 1 ≤ w) (h2 : w ≤ 64) (k : Q (.inl (some (.long (jL (sgn a w))))) σ) : wp_Words_signed Q σ (jL a) (nI w) := by
  intro x1 e1
  have : x1 = nI (64 - w) := by
    rw [e1]
    have : (64 : Int32) = nI (64 - w) + nI w := by rw [nI_add, show 64 - w + w = 64 by omega]; rfl
    rw [this, Int32.add_sub_cancel]
  rw [this, jL_shl _ (by omega), jL_sshr _ (by omega)]
  exact k
theorem p_signedQuotient {a b : BitVec 64} (k : Q (.inl (some (.long (jL (if b = 0#64 then (if a.slt 0#64 then 1#64 else BitVec.allOnes 64) else a.sdiv b))))) σ) : wp_Words_signedQuotient Q σ (jL a) (jL b) := by
  refine ⟨fun z => ?_, fun z => ?_⟩
  · rw [jL_0, jL_eq0] at z
    rw [if_neg z] at k
    exact ⟨fun q => z (jL_inj.mp q), k⟩
  · rw [jL_0, jL_eq0] at z
    rw [if_pos z] at k
    have e : (0 ≤ lg_cmp (jL a) 0) ↔ ¬ a.slt 0#64 = true := by
      rw [lg_cmp_ge, jL_0, jL_le, BitVec.sle_eq_not_slt]
      cases a.slt 0#64 <;> simp
    refine ⟨fun y => ?_, fun y => ?_⟩
    · rw [if_neg (e.mp y)] at k
      rw [jL_m1]
      exact k
    · rw [e, Classical.not_not] at y
      rw [if_pos y] at k
      exact k
theorem p_signedRest {a b : BitVec 64} (k : Q (.inl (some (.long (jL (if b = 0#64 then a else a - a.sdiv b * b))))) σ) : wp_Words_signedRest Q σ (jL a) (jL b) := by
  refine ⟨fun z => ?_, fun z => ?_⟩
  · rw [jL_0, jL_eq0] at z
    rw [if_neg z] at k
    exact ⟨fun q => z (jL_inj.mp q), k⟩
  · rw [jL_0, jL_eq0] at z
    rw [if_pos z] at k
    exact k
theorem jL_i2l {w : Nat} (h : w < 2 ^ 31) : (nI w).toInt64 = jL (BitVec.ofNat 64 w) := (nI_l h).trans rfl
theorem jL_l2i (a : BitVec 64) : (jL a).toInt32 = nI a.toNat := by
  apply Int32.toBitVec_inj.mp
  apply BitVec.eq_of_toNat_eq
  simp [jL, nI]
  rw [BitVec.signExtend_eq_setWidth_of_le _ (by decide), BitVec.toNat_setWidth]
/-- how far a shift goes where the highest bit comes in -/
def sshf (b : BitVec 64) (w : Nat) : Nat := if b.toNat < w then b.toNat else w - 1
theorem p_signShift {b : BitVec 64} {w : Nat} (h1 : 1 ≤ w) (h2 : w ≤ 64) (k : Q (.inl (some (.int (nI (sshf b w))))) σ) : wp_Words_signShift Q σ (jL b) (nI w) := by
  have bl := b.isLt
  have e1 : lg_cmp (jL b) 0 < 0 ↔ 2 ^ 63 ≤ b.toNat := by rw [lg_cmp_lt, jL_0, jL_lt, slt_0]
  have wn : (BitVec.ofNat 64 w).toNat = w := by rw [BitVec.toNat_ofNat]; omega
  have ws : nI w - 1 = nI (w - 1) := by
    have : nI w = nI (w - 1) + 1 := by rw [nI_1, show w - 1 + 1 = w by omega]
    rw [this, Int32.add_sub_cancel]
  refine ⟨fun z => ?_, fun z => ?_⟩
  · rw [e1] at z
    rw [sshf, if_neg (by omega)] at k
    rw [ws]
    exact k
  · rw [e1] at z
    have e2 : 0 ≤ lg_cmp (jL b) (nI w).toInt64 ↔ w ≤ b.toNat := by
      rw [lg_cmp_ge, jL_i2l (by omega), jL_le, BitVec.sle, decide_eq_true_iff, BitVec.toInt_eq_toNat_cond, BitVec.toInt_eq_toNat_cond, wn, if_pos (by omega), if_pos (by omega)]
      omega
    refine ⟨fun y => ?_, fun y => ?_⟩
    · rw [e2] at y
      rw [sshf, if_neg (by omega)] at k
      rw [ws]
      exact k
    · rw [e2] at y
      rw [sshf, if_pos (by omega)] at k
      rw [jL_l2i]
      exact k
/-- what two arguments come to, before the width cuts it -/
def two (op : Nat) (a b : BitVec 64) (w : Nat) : BitVec 64 := match op with
  | 28 => a - b
  | 29 => udiv a b
  | 30 => a - udiv a b * b
  | 31 => if sgn b w = 0#64 then (if (sgn a w).slt 0#64 then 1#64 else BitVec.allOnes 64) else (sgn a w).sdiv (sgn b w)
  | 32 => if sgn b w = 0#64 then sgn a w else sgn a w - (sgn a w).sdiv (sgn b w) * sgn b w
  | 33 => if b.toNat < w then a <<< b.toNat else 0#64
  | 34 => if b.toNat < w then a >>> b.toNat else 0#64
  | 35 => (sgn a w).sshiftRight (sshf b w)
  | _ => 0#64
theorem p_two {op w : Nat} {a b : BitVec 64} (ho : 28 ≤ op) (ho2 : op ≤ 35) (h1 : 1 ≤ w) (h2 : w ≤ 64) (k : Q (.inl (some (.long (jL (two op a b w))))) σ) : wp_Words_two Q σ (nI op) (jL a) (jL b) (nI w) := by
  have wn : (BitVec.ofNat 64 w).toNat = w := by rw [BitVec.toNat_ofNat]; omega
  have nn : ∀ j, j < 2 ^ 31 → (nI op = nI j ↔ op = j) := fun j hj => nI_eq (by omega) hj
  have hs : ∀ j, (nI op = nI j) → j < 64 → op = j := fun j hj hk => (nn j (by omega)).mp hj
  unfold wp_Words_two
  refine ⟨fun z => ?_, fun z => ?_, fun z => ?_, fun z => ?_, fun z => ?_, fun z => ?_, fun z => ?_, fun z => ?_, fun z => ?_⟩
  · cases hs 28 z (by decide); exact k
  · cases hs 29 z (by decide); exact p_quotient k
  · cases hs 30 z (by decide); exact p_quotient k
  · cases hs 31 z (by decide); exact p_signed h1 h2 (p_signed h1 h2 (p_signedQuotient k))
  · cases hs 32 z (by decide); exact p_signed h1 h2 (p_signed h1 h2 (p_signedRest k))
  · cases hs 33 z (by decide)
    rw [jL_i2l (by omega)]
    refine p_less ?_
    rw [wn]
    unfold two at k
    by_cases q : b.toNat < w
    · rw [if_pos q]
      simp only [q, if_true] at k
      refine ⟨fun y => absurd y (by decide), fun y => ?_⟩
      rw [jL_l2i, jL_shl _ (by omega)]
      exact k
    · rw [if_neg q]
      simp only [q, if_false] at k
      exact ⟨fun y => k, fun y => absurd rfl y⟩
  · cases hs 34 z (by decide)
    rw [jL_i2l (by omega)]
    refine p_less ?_
    rw [wn]
    unfold two at k
    by_cases q : b.toNat < w
    · rw [if_pos q]
      simp only [q, if_true] at k
      refine ⟨fun y => absurd y (by decide), fun y => ?_⟩
      rw [jL_l2i, jL_ushr _ (by omega)]
      exact k
    · rw [if_neg q]
      simp only [q, if_false] at k
      exact ⟨fun y => k, fun y => absurd rfl y⟩
  · cases hs 35 z (by decide)
    refine p_signed h1 h2 (p_signShift h1 h2 ?_)
    show Q (.inl (some (.long (jlshr (jL (sgn a w)) (nI (sshf b w)))))) σ
    have : sshf b w < 64 := by unfold sshf; split <;> omega
    rw [jL_sshr _ this]
    exact k
  · exfalso
    obtain ⟨q1, q2, q3, q4, q5, q6, q7, q8⟩ := z
    have : op = 28 ∨ op = 29 ∨ op = 30 ∨ op = 31 ∨ op = 32 ∨ op = 33 ∨ op = 34 ∨ op = 35 := by omega
    rcases this with rfl | rfl | rfl | rfl | rfl | rfl | rfl | rfl
    · exact q1 rfl
    · exact q2 rfl
    · exact q3 rfl
    · exact q4 rfl
    · exact q5 rfl
    · exact q6 rfl
    · exact q7 rfl
    · exact q8 rfl
end PURE
