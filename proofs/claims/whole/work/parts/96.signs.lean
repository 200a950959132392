/-! SIGNS: a byte's code b stands as the int sb b -/
def sb (b : Nat) : Int32 := if b < 128 then nI b else nI b + -nI 256
theorem sb_int {b : Nat} (h : b < 256) : (sb b).toInt = if b < 128 then (b : Int) else (b : Int) - 256 := by
  have : ∀ b, b < 256 → (sb b).toInt = if b < 128 then (b : Int) else (b : Int) - 256 := by decide +kernel
  exact this b h
theorem sb_lt {b k : Nat} (h : b < 256) (hk : k ≤ 128) : (sb b < nI k) = (b < k ∨ 128 ≤ b) := by
  apply propext
  rw [Int32.lt_iff_toInt_lt, sb_int h, nI_toInt (by omega)]
  split <;> omega
theorem sb_le {b k : Nat} (h : b < 256) (hk : k < 128) : (sb b ≤ nI k) = (b ≤ k ∨ 128 ≤ b) := by
  apply propext
  rw [Int32.le_iff_toInt_le, sb_int h, nI_toInt (by omega)]
  split <;> omega
theorem lt_sb {b k : Nat} (h : b < 256) (hk : k < 128) : (nI k < sb b) = (k < b ∧ b < 128) := by
  apply propext
  rw [Int32.lt_iff_toInt_lt, sb_int h, nI_toInt (by omega)]
  split <;> omega
theorem sb_eq {b k : Nat} (h : b < 256) (hk : k < 128) : (sb b = nI k) = (b = k) := by
  apply propext
  rw [← Int32.toInt_inj, sb_int h, nI_toInt (by omega)]
  split <;> omega
theorem sb_sb {a b : Nat} (ha : a < 256) (hb : b < 256) : (sb a = sb b) = (a = b) := by
  apply propext
  rw [← Int32.toInt_inj, sb_int ha, sb_int hb]
  split <;> split <;> omega
theorem sb_n {b : Nat} (h : b < 128) : sb b = nI b := if_pos h
theorem sb_255 {b : Nat} (h : b < 256) : sb b &&& 255 = nI b := (by decide +kernel : ∀ b, b < 256 → sb b &&& 255 = nI b) b h
theorem nar_sb {b : Nat} (h : b < 256) : vp_nar .byte (sb b) = sb b := (by decide +kernel : ∀ b, b < 256 → vp_nar .byte (sb b) = sb b) b h
theorem byt_sb (a : Int32) (k : Nat) : ∃ b, b < 256 ∧ byt a k = sb b := by
  unfold byt
  have h8 : ∀ v : BitVec 8, (Int8.ofBitVec v).toInt32 = sb v.toNat := by decide +kernel
  refine ⟨(jishr a (nI k)).toInt8.toBitVec.toNat, BitVec.isLt _, ?_⟩
  have e : (jishr a (nI k)).toInt8.toInt32 = sb (jishr a (nI k)).toInt8.toBitVec.toNat := h8 _
  rw [e]
  exact nar_sb (BitVec.isLt _)
/-! digits, and what may stand in a word -/
def dig (b : Nat) : Bool := decide (48 ≤ b ∧ b ≤ 57)
def dgv (b : Nat) : Option Nat := if 48 ≤ b ∧ b ≤ 57 then some (b - 48) else if 97 ≤ b ∧ b ≤ 102 then some (b - 87) else if 65 ≤ b ∧ b ≤ 70 then some (b - 55) else none
def oth : List Nat := [126, 33, 64, 36, 37, 94, 38, 42, 95, 45, 43, 61, 60, 62, 46, 63, 47, 35]
def isW (b : Nat) : Bool := dig b || decide (97 ≤ b ∧ b ≤ 122) || decide (65 ≤ b ∧ b ≤ 90) || decide (b ∈ oth)
section SIGN
variable {σ σ' : xS} {Q : xO → xS → Prop} {b : Nat}
theorem v_dig (h : b < 256) (k : Q (.inl (some (.int (bI (dig b))))) σ) : wp_Text_isDigit Q σ (sb b) := by
  unfold wp_Text_isDigit
  simp (disch := omega) only [i32_lit, l64_lit, lc_eq, lc_ge, lc_le, lc_gt, lc_lt, jL_inj, jL_add, jL_sub, jL_mul, jL_neg, jL_and, jL_or, jL_xor, jL_mone, BitVec.xor_allOnes, nI_clamp, nI_ltI, nI_leI, nI_eq, nI_1, nI_add, nI_sub, nI_addm, nI_mul, vp_in_n, xi_pi, xi_pl, xl_pi, xl_pl, xb_pi, xb_pl, xqi_i, xql_l, xqv_v, xqi_e, xql_e, xqv_e, forall_eq, true_and, and_true, sb_lt, lt_sb]
  unfold dig at k
  refine ⟨fun z => ?_, fun z => ⟨fun z2 => ?_, fun z2 => ?_⟩⟩
  · rw [decide_eq_false (by omega)] at k; exact k
  · rw [decide_eq_false (by omega)] at k; exact k
  · rw [decide_eq_true (by omega)] at k; exact k
theorem r_dig (h : b < 256) (k : Q (.inl (some (.int (bI (dig b))))) σ) : wp_VectorSolverModel_isDigit Q σ (sb b) := by
  unfold wp_VectorSolverModel_isDigit
  simp (disch := omega) only [i32_lit, l64_lit, lc_eq, lc_ge, lc_le, lc_gt, lc_lt, jL_inj, jL_add, jL_sub, jL_mul, jL_neg, jL_and, jL_or, jL_xor, jL_mone, BitVec.xor_allOnes, nI_clamp, nI_ltI, nI_leI, nI_eq, nI_1, nI_add, nI_sub, nI_addm, nI_mul, vp_in_n, xi_pi, xi_pl, xl_pi, xl_pl, xb_pi, xb_pl, xqi_i, xql_l, xqv_v, xqi_e, xql_e, xqv_e, forall_eq, true_and, and_true, sb_lt, lt_sb]
  unfold dig at k
  refine ⟨fun z => ?_, fun z => ⟨fun z2 => ?_, fun z2 => ?_⟩⟩
  · rw [decide_eq_false (by omega)] at k; exact k
  · rw [decide_eq_false (by omega)] at k; exact k
  · rw [decide_eq_true (by omega)] at k; exact k
theorem r_digN (h : b < 256) (k : Q (.inl (some (.int (bI (dig b))))) σ) : wp_VectorSolverModel_isDigit Q σ (nI b) := by
  unfold wp_VectorSolverModel_isDigit
  simp (disch := omega) only [i32_lit, l64_lit, lc_eq, lc_ge, lc_le, lc_gt, lc_lt, jL_inj, jL_add, jL_sub, jL_mul, jL_neg, jL_and, jL_or, jL_xor, jL_mone, BitVec.xor_allOnes, nI_clamp, nI_ltI, nI_leI, nI_eq, nI_1, nI_add, nI_sub, nI_addm, nI_mul, vp_in_n, xi_pi, xi_pl, xl_pi, xl_pl, xb_pi, xb_pl, xqi_i, xql_l, xqv_v, xqi_e, xql_e, xqv_e, forall_eq, true_and, and_true]
  unfold dig at k
  refine ⟨fun z => ?_, fun z => ⟨fun z2 => ?_, fun z2 => ?_⟩⟩
  · rw [decide_eq_false (by omega)] at k; exact k
  · rw [decide_eq_false (by omega)] at k; exact k
  · rw [decide_eq_true (by omega)] at k; exact k
theorem dg_1 (h : 48 ≤ b ∧ b ≤ 57) : supI (dgv b) = nI (b - 48) := by unfold dgv; rw [if_pos h]; rfl
theorem dg_2 (h : 97 ≤ b ∧ b ≤ 102) : supI (dgv b) = nI (b - 87) := by unfold dgv; rw [if_neg (by omega), if_pos h]; rfl
theorem dg_3 (h : 65 ≤ b ∧ b ≤ 70) : supI (dgv b) = nI (b - 55) := by unfold dgv; rw [if_neg (by omega), if_neg (by omega), if_pos h]; rfl
theorem dg_4 (h1 : ¬ (48 ≤ b ∧ b ≤ 57)) (h2 : ¬ (97 ≤ b ∧ b ≤ 102)) (h3 : ¬ (65 ≤ b ∧ b ≤ 70)) : supI (dgv b) = -nI 1 := by unfold dgv; rw [if_neg h1, if_neg h2, if_neg h3]; rfl
theorem v_digit (h : b < 256) (k : Q (.inl (some (.int (supI (dgv b))))) σ) : wp_Text_digit Q σ (sb b) := by
  unfold wp_Text_digit w_Text_digit_32
  refine v_dig h ?_
  rw [xqi_i]
  simp (disch := omega) only [i32_lit, l64_lit, lc_eq, lc_ge, lc_le, lc_gt, lc_lt, jL_inj, jL_add, jL_sub, jL_mul, jL_neg, jL_and, jL_or, jL_xor, jL_mone, BitVec.xor_allOnes, nI_clamp, nI_ltI, nI_leI, nI_eq, nI_1, nI_add, nI_sub, nI_addm, nI_mul, vp_in_n, xi_pi, xi_pl, xl_pi, xl_pl, xb_pi, xb_pl, xqi_i, xql_l, xqv_v, xqi_e, xql_e, xqv_e, forall_eq, true_and, and_true, bI_0, sb_lt, lt_sb]
  unfold dig
  refine ⟨fun z => ?_, fun z => ?_⟩
  · have z := of_decide_eq_false z
    refine ⟨fun q => ⟨fun q2 => ?_, fun q2 => ⟨fun q3 => ?_, fun q3 => ?_⟩⟩, fun q => ⟨fun q2 => ⟨fun q3 => ?_, fun q3 => ⟨fun q4 => ?_, fun q4 => ?_⟩⟩, fun q2 => ?_⟩⟩
    · rw [dg_4 z (by omega) (by omega)] at k; exact k
    · rw [dg_4 z (by omega) (by omega)] at k; exact k
    · rw [dg_3 (by omega)] at k
      rw [sb_n (by omega), nI_sub (by omega), nI_add, show b - 65 + 10 = b - 55 by omega]; exact k
    · rw [dg_4 z (by omega) (by omega)] at k; exact k
    · rw [dg_4 z (by omega) (by omega)] at k; exact k
    · omega
    · rw [dg_2 (by omega)] at k
      rw [sb_n (by omega), nI_sub (by omega), nI_add, show b - 97 + 10 = b - 87 by omega]; exact k
  · have z : 48 ≤ b ∧ b ≤ 57 := by
      apply Classical.byContradiction
      intro n
      exact z (decide_eq_false n)
    rw [dg_1 z] at k
    rw [sb_n (by omega), nI_sub (by omega)]
    exact k
theorem r_digit (h : b < 256) (k : Q (.inl (some (.int (supI (dgv b))))) σ) : wp_VectorSolverModel_digit Q σ (sb b) := by
  unfold wp_VectorSolverModel_digit w_VectorSolverModel_digit_33
  refine r_dig h ?_
  rw [xqi_i]
  simp (disch := omega) only [i32_lit, l64_lit, lc_eq, lc_ge, lc_le, lc_gt, lc_lt, jL_inj, jL_add, jL_sub, jL_mul, jL_neg, jL_and, jL_or, jL_xor, jL_mone, BitVec.xor_allOnes, nI_clamp, nI_ltI, nI_leI, nI_eq, nI_1, nI_add, nI_sub, nI_addm, nI_mul, vp_in_n, xi_pi, xi_pl, xl_pi, xl_pl, xb_pi, xb_pl, xqi_i, xql_l, xqv_v, xqi_e, xql_e, xqv_e, forall_eq, true_and, and_true, bI_0, sb_lt, lt_sb]
  unfold dig
  refine ⟨fun z => ?_, fun z => ?_⟩
  · have z := of_decide_eq_false z
    refine ⟨fun q => ⟨fun q2 => ?_, fun q2 => ⟨fun q3 => ?_, fun q3 => ?_⟩⟩, fun q => ⟨fun q2 => ⟨fun q3 => ?_, fun q3 => ⟨fun q4 => ?_, fun q4 => ?_⟩⟩, fun q2 => ?_⟩⟩
    · rw [dg_4 z (by omega) (by omega)] at k; exact k
    · rw [dg_4 z (by omega) (by omega)] at k; exact k
    · rw [dg_3 (by omega)] at k
      rw [sb_n (by omega), nI_sub (by omega)]; exact k
    · rw [dg_4 z (by omega) (by omega)] at k; exact k
    · rw [dg_4 z (by omega) (by omega)] at k; exact k
    · omega
    · rw [dg_2 (by omega)] at k
      rw [sb_n (by omega), nI_sub (by omega)]; exact k
  · have z : 48 ≤ b ∧ b ≤ 57 := by
      apply Classical.byContradiction
      intro n
      exact z (decide_eq_false n)
    rw [dg_1 z] at k
    rw [sb_n (by omega), nI_sub (by omega)]
    exact k
/-! the texts' own signs -/
def chc (i k : Nat) : Nat := ((xbyt.getD i []).getD k 0).toNatClampNeg
theorem xch_1 : ∀ k, k < 18 → xch 1 (nI k) = nI (chc 1 k) ∧ chc 1 k = oth.getD k 0 ∧ ((((xch 1 (nI k)) &&& 255).toUInt32 % 65536).toInt32) = nI (chc 1 k) ∧ chc 1 k < 128 := by decide +kernel
theorem xch_0 : ∀ k, k < 295 → xch 0 (nI k) = nI (chc 0 k) ∧ ((((xch 0 (nI k)) &&& 255).toUInt32 % 65536).toInt32) = nI (chc 0 k) ∧ chc 0 k < 128 := by decide +kernel
theorem xch_2 : ∀ k, k < 296 → xch 2 (nI k) = nI (chc 2 k) ∧ ((((xch 2 (nI k)) &&& 255).toUInt32 % 65536).toInt32) = nI (chc 2 k) ∧ chc 2 k < 128 := by decide +kernel
theorem narC {n : Nat} (h : n < 128) : narrow .char (.int (nI n)) = .int (nI n) := (by decide +kernel : ∀ n, n < 128 → narrow .char (.int (nI n)) = .int (nI n)) n h
theorem p_charAt0 {k : Nat} (h : k < 295) (q : Q (.inl (some (.int (nI (chc 0 k))))) σ) : wp_String_charAt_900 Q σ (nI k) := by
  obtain ⟨e1, e2, e3⟩ := xch_0 k h
  unfold wp_String_charAt_900 wp_String_isLatin1_900
  refine ⟨fun n => absurd n (by decide), fun _ => ⟨fun n => absurd rfl n, fun _ => ?_⟩⟩
  rw [xqi_i]
  refine ⟨fun n => absurd n (by decide), fun _ => ?_⟩
  unfold wp_StringLatin1_charAt_910 wp_String_checkIndex
  refine ⟨nI_pos (by omega), (nI_ltI (b := 295) (by omega) (by decide)).mpr h, ?_⟩
  rw [xqv_v]
  refine ⟨vp_in_nI h (by decide), ?_⟩
  rw [e2]
  refine ⟨narC e3, ?_⟩
  rw [xqi_i]
  exact ⟨narC e3, q⟩
theorem p_charAt1 {k : Nat} (h : k < 18) (q : Q (.inl (some (.int (nI (chc 1 k))))) σ) : wp_String_charAt_901 Q σ (nI k) := by
  obtain ⟨e1, e0, e2, e3⟩ := xch_1 k h
  unfold wp_String_charAt_901 wp_String_isLatin1_901
  refine ⟨fun n => absurd n (by decide), fun _ => ⟨fun n => absurd rfl n, fun _ => ?_⟩⟩
  rw [xqi_i]
  refine ⟨fun n => absurd n (by decide), fun _ => ?_⟩
  unfold wp_StringLatin1_charAt_911 wp_String_checkIndex
  refine ⟨nI_pos (by omega), (nI_ltI (b := 18) (by omega) (by decide)).mpr h, ?_⟩
  rw [xqv_v]
  refine ⟨vp_in_nI h (by decide), ?_⟩
  rw [e2]
  refine ⟨narC e3, ?_⟩
  rw [xqi_i]
  exact ⟨narC e3, q⟩
theorem p_charAt2 {k : Nat} (h : k < 296) (q : Q (.inl (some (.int (nI (chc 2 k))))) σ) : wp_String_charAt_902 Q σ (nI k) := by
  obtain ⟨e1, e2, e3⟩ := xch_2 k h
  unfold wp_String_charAt_902 wp_String_isLatin1_902
  refine ⟨fun n => absurd n (by decide), fun _ => ⟨fun n => absurd rfl n, fun _ => ?_⟩⟩
  rw [xqi_i]
  refine ⟨fun n => absurd n (by decide), fun _ => ?_⟩
  unfold wp_StringLatin1_charAt_912 wp_String_checkIndex
  refine ⟨nI_pos (by omega), (nI_ltI (b := 296) (by omega) (by decide)).mpr h, ?_⟩
  rw [xqv_v]
  refine ⟨vp_in_nI h (by decide), ?_⟩
  rw [e2]
  refine ⟨narC e3, ?_⟩
  rw [xqi_i]
  exact ⟨narC e3, q⟩
theorem p_len1 (q : Q (.inl (some (.int (nI 18)))) σ) : wp_String_length_901 Q σ := by
  unfold wp_String_length_901 wp_String_coder_901
  refine ⟨fun n => absurd n (by decide), fun _ => ⟨by decide, ?_⟩⟩
  rw [xqi_i]
  exact q
theorem p_len2 (q : Q (.inl (some (.int (nI 296)))) σ) : wp_String_length_902 Q σ := by
  unfold wp_String_length_902 wp_String_coder_902
  refine ⟨fun n => absurd n (by decide), fun _ => ⟨by decide, ?_⟩⟩
  rw [xqi_i]
  exact q
theorem oth_mem : b ∈ oth ↔ ∃ k, k < 18 ∧ chc 1 k = b := by
  constructor
  · intro h
    obtain ⟨k, hk, e⟩ := List.mem_iff_getElem.mp h
    have l : oth.length = 18 := rfl
    refine ⟨k, by omega, ?_⟩
    rw [(xch_1 k (by omega)).2.1, List.getD_eq_getElem?_getD, List.getElem?_eq_getElem hk]
    exact e
  · rintro ⟨k, hk, e⟩
    rw [← e, (xch_1 k hk).2.1, List.getD_eq_getElem?_getD, List.getElem?_eq_getElem (show k < oth.length from hk)]
    exact List.getElem_mem _
theorem p_indexOf (hb : 0 < b) (h : b < 128) (k1 : b ∈ oth → ∀ j, j < 18 → Q (.inl (some (.int (nI j)))) σ) (k2 : ¬ b ∈ oth → Q (.inl (some (.int (-1)))) σ) : wp_String_indexOf0_901 Q σ (nI b) := by
  unfold wp_String_indexOf0_901 wp_String_indexOf1_901 wp_String_isLatin1_901
  refine ⟨fun n => absurd n (by decide), fun _ => ⟨fun n => absurd rfl n, fun _ => ?_⟩⟩
  rw [xqi_i]
  refine ⟨fun n => absurd n (by decide), fun _ => ?_⟩
  refine p_len1 ?_
  rw [xqi_i]
  unfold wp_StringLatin1_indexOf_911 wp_StringLatin1_canEncode
  simp (disch := omega) only [i32_lit, l64_lit, lc_eq, lc_ge, lc_le, lc_gt, lc_lt, jL_inj, jL_add, jL_sub, jL_mul, jL_neg, jL_and, jL_or, jL_xor, jL_mone, BitVec.xor_allOnes, nI_clamp, nI_ltI, nI_leI, nI_eq, nI_1, nI_add, nI_sub, nI_addm, nI_mul, vp_in_n, xi_pi, xi_pl, xl_pi, xl_pl, xb_pi, xb_pl, xqi_i, xql_l, xqv_v, xqi_e, xql_e, xqv_e, forall_eq, true_and, and_true]
  refine ⟨fun z => absurd z (by omega), fun _ => ⟨fun z => absurd z (by omega), fun _ => ⟨fun _ => ?_, fun n => absurd n (by decide)⟩⟩⟩
  unfold wp_Math_max
  simp (disch := omega) only [i32_lit, l64_lit, lc_eq, lc_ge, lc_le, lc_gt, lc_lt, jL_inj, jL_add, jL_sub, jL_mul, jL_neg, jL_and, jL_or, jL_xor, jL_mone, BitVec.xor_allOnes, nI_clamp, nI_ltI, nI_leI, nI_eq, nI_1, nI_add, nI_sub, nI_addm, nI_mul, vp_in_n, xi_pi, xi_pl, xl_pi, xl_pl, xb_pi, xb_pl, xqi_i, xql_l, xqv_v, xqi_e, xql_e, xqv_e, forall_eq, true_and, and_true]
  refine ⟨fun z => absurd z (by omega), fun _ => ?_⟩
  unfold wp_Math_min
  have e18 : (Int32.ofNat 18) = nI 18 := rfl
  rw [e18]
  simp (disch := omega) only [i32_lit, l64_lit, lc_eq, lc_ge, lc_le, lc_gt, lc_lt, jL_inj, jL_add, jL_sub, jL_mul, jL_neg, jL_and, jL_or, jL_xor, jL_mone, BitVec.xor_allOnes, nI_clamp, nI_ltI, nI_leI, nI_eq, nI_1, nI_add, nI_sub, nI_addm, nI_mul, vp_in_n, xi_pi, xi_pl, xl_pi, xl_pl, xb_pi, xb_pl, xqi_i, xql_l, xqv_v, xqi_e, xql_e, xqv_e, forall_eq, true_and, and_true]
  refine ⟨fun z => absurd z (by omega), fun _ => ⟨fun _ => ?_, fun n => absurd (by decide) n⟩⟩
  unfold wp_StringLatin1_indexOfChar_911
  have e8 : (nI b).toInt8.toInt32 = nI b := (by decide +kernel : ∀ b, b < 128 → (nI b).toInt8.toInt32 = nI b) b h
  rw [e8]
  simp (disch := omega) only [i32_lit, l64_lit, lc_eq, lc_ge, lc_le, lc_gt, lc_lt, jL_inj, jL_add, jL_sub, jL_mul, jL_neg, jL_and, jL_or, jL_xor, jL_mone, BitVec.xor_allOnes, nI_clamp, nI_ltI, nI_leI, nI_eq, nI_1, nI_add, nI_sub, nI_addm, nI_mul, vp_in_n, xi_pi, xi_pl, xl_pi, xl_pl, xb_pi, xb_pl, xqi_i, xql_l, xqv_v, xqi_e, xql_e, xqv_e, forall_eq, true_and, and_true]
  have key := loop_i (σ := Unit) (fun n j _ => w_StringLatin1_indexOfChar_911_7 (xqi (fun r8 u7 => xqi (fun r10 u9 => xqi (fun r2 u1 => Q (.inl (some (.int r2))) u1) (fun n u => Q (.inr n) u) (.inl (some (.int r10))) u9) (fun n u => xqi (fun r2 u1 => Q (.inl (some (.int r2))) u1) (fun n u => Q (.inr n) u) (.inr n) u) (.inl (some (.int r8))) u7) (fun n u => xqi (fun r10 u9 => xqi (fun r2 u1 => Q (.inl (some (.int r2))) u1) (fun n u => Q (.inr n) u) (.inl (some (.int r10))) u9) (fun n u => xqi (fun r2 u1 => Q (.inl (some (.int r2))) u1) (fun n u => Q (.inr n) u) (.inr n) u) (.inr n) u)) n (nI 18) (nI b) (nI j) σ) (fun j _ => ∀ i, i < j → chc 1 i ≠ b) 18 (fun n _ hI => ?_) (fun n j _ hj hI hs => ?_)
  · exact ⟨_, key 19 0 () (by decide) (by decide) (fun i hi => absurd hi (by omega))⟩
  · unfold w_StringLatin1_indexOfChar_911_7
    refine ⟨fun _ => ?_, fun n => absurd (Int32.le_refl _) n⟩
    refine k2 (fun n => ?_)
    obtain ⟨k, hk, e⟩ := oth_mem.mp n
    exact hI k hk e
  · unfold w_StringLatin1_indexOfChar_911_7
    rw [(xch_1 j hj).1]
    have cl := (xch_1 j hj).2.2.2
    simp (disch := omega) only [i32_lit, l64_lit, lc_eq, lc_ge, lc_le, lc_gt, lc_lt, jL_inj, jL_add, jL_sub, jL_mul, jL_neg, jL_and, jL_or, jL_xor, jL_mone, BitVec.xor_allOnes, nI_clamp, nI_ltI, nI_leI, nI_eq, nI_1, nI_add, nI_sub, nI_addm, nI_mul, vp_in_n, xi_pi, xi_pl, xl_pi, xl_pl, xb_pi, xb_pl, xqi_i, xql_l, xqv_v, xqi_e, xql_e, xqv_e, forall_eq, true_and, and_true]
    refine ⟨fun z => absurd z (by omega), fun _ => ⟨fun z => hs () (fun i hi => ?_), fun z => k1 (oth_mem.mpr ⟨j, hj, z⟩) j hj⟩⟩
    by_cases c : i = j
    · rw [c]; exact z
    · exact hI i (by omega)
theorem v_isWord (h : b < 256) (k : Q (.inl (some (.int (bI (isW b))))) σ) : wp_Text_isWordSign Q σ (sb b) := by
  unfold isW at k
  have t33 : ¬ (48 ≤ b ∧ b ≤ 57) → ¬ (97 ≤ b ∧ b ≤ 122) → ¬ (65 ≤ b ∧ b ≤ 90) → w_Text_isWordSign_33 Q (sb b) σ := by
    intro n1 n2 n3
    unfold dig at k
    rw [decide_eq_false n1, decide_eq_false n2, decide_eq_false n3] at k
    unfold w_Text_isWordSign_33
    simp (disch := omega) only [i32_lit, l64_lit, lc_eq, lc_ge, lc_le, lc_gt, lc_lt, jL_inj, jL_add, jL_sub, jL_mul, jL_neg, jL_and, jL_or, jL_xor, jL_mone, BitVec.xor_allOnes, nI_clamp, nI_ltI, nI_leI, nI_eq, nI_1, nI_add, nI_sub, nI_addm, nI_mul, vp_in_n, xi_pi, xi_pl, xl_pi, xl_pl, xb_pi, xb_pl, xqi_i, xql_l, xqv_v, xqi_e, xql_e, xqv_e, forall_eq, true_and, and_true, sb_le]
    refine ⟨fun z => ?_, fun z => ?_⟩
    · have : ¬ b ∈ oth := fun m => by
        have := (by decide : ∀ x ∈ oth, 0 < x ∧ x < 128) b m
        omega
      rw [decide_eq_false this] at k
      exact k
    · rw [sb_n (by omega)]
      have e6 : ((nI b).toUInt32 % 65536).toInt32 = nI b := (by decide +kernel : ∀ b, b < 128 → ((nI b).toUInt32 % 65536).toInt32 = nI b) b (by omega)
      rw [e6]
      refine p_indexOf (by omega) (by omega) (fun m j hj => ?_) (fun m => ?_)
      · rw [xqi_i]
        rw [decide_eq_true m] at k
        simp (disch := omega) only [i32_lit, l64_lit, lc_eq, lc_ge, lc_le, lc_gt, lc_lt, jL_inj, jL_add, jL_sub, jL_mul, jL_neg, jL_and, jL_or, jL_xor, jL_mone, BitVec.xor_allOnes, nI_clamp, nI_ltI, nI_leI, nI_eq, nI_1, nI_add, nI_sub, nI_addm, nI_mul, vp_in_n, xi_pi, xi_pl, xl_pi, xl_pl, xb_pi, xb_pl, xqi_i, xql_l, xqv_v, xqi_e, xql_e, xqv_e, forall_eq, true_and, and_true]
        exact ⟨fun z => absurd z (by omega), fun _ => k⟩
      · rw [xqi_i]
        rw [decide_eq_false m] at k
        exact ⟨fun _ => k, fun n => absurd (by decide) n⟩
  have t19 : ¬ (48 ≤ b ∧ b ≤ 57) → ¬ (97 ≤ b ∧ b ≤ 122) → w_Text_isWordSign_19 Q (sb b) σ := by
    intro n1 n2
    unfold w_Text_isWordSign_19
    simp (disch := omega) only [i32_lit, l64_lit, lc_eq, lc_ge, lc_le, lc_gt, lc_lt, jL_inj, jL_add, jL_sub, jL_mul, jL_neg, jL_and, jL_or, jL_xor, jL_mone, BitVec.xor_allOnes, nI_clamp, nI_ltI, nI_leI, nI_eq, nI_1, nI_add, nI_sub, nI_addm, nI_mul, vp_in_n, xi_pi, xi_pl, xl_pi, xl_pl, xb_pi, xb_pl, xqi_i, xql_l, xqv_v, xqi_e, xql_e, xqv_e, forall_eq, true_and, and_true, sb_lt, lt_sb]
    refine ⟨fun z => t33 n1 n2 (by omega), fun z => ⟨fun z2 => t33 n1 n2 (by omega), fun z2 => ?_⟩⟩
    have y : 65 ≤ b ∧ b ≤ 90 := by omega
    rw [decide_eq_true y] at k
    simp only [Bool.or_true, Bool.true_or] at k
    exact k
  unfold wp_Text_isWordSign
  refine v_dig h ?_
  rw [xqi_i]
  simp (disch := omega) only [i32_lit, l64_lit, lc_eq, lc_ge, lc_le, lc_gt, lc_lt, jL_inj, jL_add, jL_sub, jL_mul, jL_neg, jL_and, jL_or, jL_xor, jL_mone, BitVec.xor_allOnes, nI_clamp, nI_ltI, nI_leI, nI_eq, nI_1, nI_add, nI_sub, nI_addm, nI_mul, vp_in_n, xi_pi, xi_pl, xl_pi, xl_pl, xb_pi, xb_pl, xqi_i, xql_l, xqv_v, xqi_e, xql_e, xqv_e, forall_eq, true_and, and_true, bI_0, sb_lt, sb_le]
  refine ⟨fun z => ?_, fun z => ?_⟩
  · have y : dig b = true := by cases e : dig b with
      | true => rfl
      | false => exact absurd e z
    rw [y] at k
    exact k
  · have n1 : ¬ (48 ≤ b ∧ b ≤ 57) := of_decide_eq_false z
    refine ⟨fun z2 => t19 n1 (by omega), fun z2 => ⟨fun z3 => ?_, fun z3 => t19 n1 (by omega)⟩⟩
    have y : 97 ≤ b ∧ b ≤ 122 := by omega
    rw [decide_eq_true y] at k
    simp only [Bool.or_true, Bool.true_or] at k
    exact k
theorem r_isWord (h : b < 256) (k : Q (.inl (some (.int (bI (isW b))))) σ) : wp_VectorSolverModel_isWord Q σ (nI b) := by
  unfold isW at k
  have bt : ∀ r : Bool, (bI r = nI 0 ∨ bI r = nI 1) := fun r => by cases r <;> decide
  have t33 : ¬ (48 ≤ b ∧ b ≤ 57) → ¬ (97 ≤ b ∧ b ≤ 122) → ¬ (65 ≤ b ∧ b ≤ 90) → w_VectorSolverModel_isWord_33 Q (nI b) σ := by
    intro n1 n2 n3
    unfold dig at k
    rw [decide_eq_false n1, decide_eq_false n2, decide_eq_false n3] at k
    unfold w_VectorSolverModel_isWord_33
    have key := loop_i (σ := Bool) (fun n j r => w_VectorSolverModel_isWord_40 Q n (nI b) (bI r) (nI j) σ) (fun j r => r = true ↔ ∃ i, i < j ∧ chc 1 i = b) 18 (fun n r hI => ?_) (fun n j r hj hI hs => ?_)
    · exact ⟨_, key 19 0 false (by decide) (by decide) ⟨fun q => (by cases q), fun ⟨i, hi, _⟩ => absurd hi (by omega)⟩⟩
    · unfold w_VectorSolverModel_isWord_40
      refine p_len1 ?_
      rw [xqi_i]
      refine ⟨fun _ => ⟨bt r, ?_⟩, fun n => absurd (Int32.le_refl _) n⟩
      rw [← oth_mem] at hI
      have e : decide (b ∈ oth) = r := by
        cases r with
        | true => exact decide_eq_true (hI.mp rfl)
        | false => exact decide_eq_false (fun m => by have := hI.mpr m; cases this)
      rw [e] at k
      simp only [Bool.false_or] at k
      exact k
    · have cl := (xch_1 j hj).2.2.2
      unfold w_VectorSolverModel_isWord_40
      refine p_len1 ?_
      rw [xqi_i]
      simp (disch := omega) only [i32_lit, l64_lit, lc_eq, lc_ge, lc_le, lc_gt, lc_lt, jL_inj, jL_add, jL_sub, jL_mul, jL_neg, jL_and, jL_or, jL_xor, jL_mone, BitVec.xor_allOnes, nI_clamp, nI_ltI, nI_leI, nI_eq, nI_1, nI_add, nI_sub, nI_addm, nI_mul, vp_in_n, xi_pi, xi_pl, xl_pi, xl_pl, xb_pi, xb_pl, xqi_i, xql_l, xqv_v, xqi_e, xql_e, xqv_e, forall_eq, true_and, and_true, bI_0]
      refine ⟨fun z => absurd z (by omega), fun _ => ⟨fun z => ?_, fun z => ?_⟩⟩
      · unfold w_VectorSolverModel_isWord_61
        have rt : r = true := by cases e : r with
          | true => rfl
          | false => exact absurd e z
        simp (disch := omega) only [i32_lit, l64_lit, lc_eq, lc_ge, lc_le, lc_gt, lc_lt, jL_inj, jL_add, jL_sub, jL_mul, jL_neg, jL_and, jL_or, jL_xor, jL_mone, BitVec.xor_allOnes, nI_clamp, nI_ltI, nI_leI, nI_eq, nI_1, nI_add, nI_sub, nI_addm, nI_mul, vp_in_n, xi_pi, xi_pl, xl_pi, xl_pl, xb_pi, xb_pl, xqi_i, xql_l, xqv_v, xqi_e, xql_e, xqv_e, forall_eq, true_and, and_true]
        obtain ⟨i, i1, i2⟩ := hI.mp rt
        exact hs true ⟨fun _ => ⟨i, by omega, i2⟩, fun _ => rfl⟩
      · refine p_charAt1 hj ?_
        rw [xqi_i]
        simp (disch := omega) only [i32_lit, l64_lit, lc_eq, lc_ge, lc_le, lc_gt, lc_lt, jL_inj, jL_add, jL_sub, jL_mul, jL_neg, jL_and, jL_or, jL_xor, jL_mone, BitVec.xor_allOnes, nI_clamp, nI_ltI, nI_leI, nI_eq, nI_1, nI_add, nI_sub, nI_addm, nI_mul, vp_in_n, xi_pi, xi_pl, xl_pi, xl_pl, xb_pi, xb_pl, xqi_i, xql_l, xqv_v, xqi_e, xql_e, xqv_e, forall_eq, true_and, and_true]
        refine ⟨fun z2 => hs false ⟨fun q => (by cases q), fun ⟨i, i1, i2⟩ => ?_⟩, fun z2 => ?_⟩
        · by_cases c : i = j
          · rw [c] at i2; exact absurd i2 z2
          · rw [← z]; exact hI.mpr ⟨i, by omega, i2⟩
        · unfold w_VectorSolverModel_isWord_61
          simp (disch := omega) only [i32_lit, l64_lit, lc_eq, lc_ge, lc_le, lc_gt, lc_lt, jL_inj, jL_add, jL_sub, jL_mul, jL_neg, jL_and, jL_or, jL_xor, jL_mone, BitVec.xor_allOnes, nI_clamp, nI_ltI, nI_leI, nI_eq, nI_1, nI_add, nI_sub, nI_addm, nI_mul, vp_in_n, xi_pi, xi_pl, xl_pi, xl_pl, xb_pi, xb_pl, xqi_i, xql_l, xqv_v, xqi_e, xql_e, xqv_e, forall_eq, true_and, and_true]
          exact hs true ⟨fun _ => ⟨j, by omega, z2⟩, fun _ => rfl⟩
  have t19 : ¬ (48 ≤ b ∧ b ≤ 57) → ¬ (65 ≤ b ∧ b ≤ 90) → w_VectorSolverModel_isWord_19 Q (nI b) σ := by
    intro n1 n2
    unfold w_VectorSolverModel_isWord_19
    simp (disch := omega) only [i32_lit, l64_lit, lc_eq, lc_ge, lc_le, lc_gt, lc_lt, jL_inj, jL_add, jL_sub, jL_mul, jL_neg, jL_and, jL_or, jL_xor, jL_mone, BitVec.xor_allOnes, nI_clamp, nI_ltI, nI_leI, nI_eq, nI_1, nI_add, nI_sub, nI_addm, nI_mul, vp_in_n, xi_pi, xi_pl, xl_pi, xl_pl, xb_pi, xb_pl, xqi_i, xql_l, xqv_v, xqi_e, xql_e, xqv_e, forall_eq, true_and, and_true]
    refine ⟨fun z => t33 n1 (by omega) n2, fun z => ⟨fun z2 => t33 n1 (by omega) n2, fun z2 => ?_⟩⟩
    have y : 97 ≤ b ∧ b ≤ 122 := by omega
    rw [decide_eq_true y] at k
    simp only [Bool.or_true, Bool.true_or] at k
    exact k
  unfold wp_VectorSolverModel_isWord
  refine r_digN h ?_
  rw [xqi_i]
  simp (disch := omega) only [i32_lit, l64_lit, lc_eq, lc_ge, lc_le, lc_gt, lc_lt, jL_inj, jL_add, jL_sub, jL_mul, jL_neg, jL_and, jL_or, jL_xor, jL_mone, BitVec.xor_allOnes, nI_clamp, nI_ltI, nI_leI, nI_eq, nI_1, nI_add, nI_sub, nI_addm, nI_mul, vp_in_n, xi_pi, xi_pl, xl_pi, xl_pl, xb_pi, xb_pl, xqi_i, xql_l, xqv_v, xqi_e, xql_e, xqv_e, forall_eq, true_and, and_true, bI_0]
  refine ⟨fun z => ?_, fun z => ?_⟩
  · have y : dig b = true := by cases e : dig b with
      | true => rfl
      | false => exact absurd e z
    rw [y] at k
    exact k
  · have n1 : ¬ (48 ≤ b ∧ b ≤ 57) := of_decide_eq_false z
    refine ⟨fun z2 => t19 n1 (by omega), fun z2 => ⟨fun z3 => ?_, fun z3 => t19 n1 (by omega)⟩⟩
    have y : 65 ≤ b ∧ b ≤ 90 := by omega
    rw [decide_eq_true y] at k
    simp only [Bool.or_true, Bool.true_or] at k
    exact k
end SIGN
