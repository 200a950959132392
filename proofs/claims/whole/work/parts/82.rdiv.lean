section RD
variable {Q : xO → xS → Prop} {σ : xS}
theorem bit_k {a : BitVec 64} {k : Nat} (hk : k < 64) : (a.sshiftRight k &&& 1#64).toNat = a.toNat / 2 ^ k % 2 := by
  have e : (a.sshiftRight k &&& 1#64) = (a >>> k) &&& 1#64 := by
    apply BitVec.eq_of_getLsbD_eq
    intro i hi
    rw [BitVec.getLsbD_and, BitVec.getLsbD_and, show (1#64) = bm 1 from rfl, bm_bit]
    by_cases c : i = 0
    · subst c
      rw [BitVec.getLsbD_sshiftRight, BitVec.getLsbD_ushiftRight, if_pos (by omega)]
      simp
    · rw [decide_eq_false (show ¬ i < 1 by omega)]
      simp
  rw [e, show (1#64) = bm 1 from rfl, and_bm _ (by decide), BitVec.toNat_ushiftRight, Nat.shiftRight_eq_div_pow]
theorem or_pow {x k : Nat} : x * 2 ^ (k + 1) ||| 2 ^ k = x * 2 ^ (k + 1) + 2 ^ k := by
  rw [Nat.pow_succ, Nat.mul_comm (2 ^ k) 2, ← Nat.mul_assoc]
  have : x * 2 * 2 ^ k ||| 2 ^ k = (x * 2 ||| 1) * 2 ^ k := by
    apply Nat.eq_of_testBit_eq
    intro i
    rw [Nat.testBit_or, Nat.testBit_mul_two_pow, Nat.testBit_mul_two_pow, Nat.testBit_or, Nat.testBit_two_pow]
    by_cases c : k ≤ i
    · rw [decide_eq_true c, Bool.true_and, Bool.true_and]
      congr 1
      by_cases d : k = i
      · subst d; simp
      · have e1 : (1 : Nat).testBit (i - k) = false := by
          rw [show (1 : Nat) = 2 ^ 0 from rfl, Nat.testBit_two_pow]
          exact decide_eq_false (by omega)
        rw [decide_eq_false d, e1]
    · rw [decide_eq_false c, decide_eq_false (show ¬ k = i by omega)]
      rfl
  rw [this]
  have e : x * 2 ||| 1 = x * 2 + 1 := by
    apply Nat.eq_of_testBit_eq
    intro i
    cases i with
    | zero => rw [Nat.testBit_or, Nat.testBit_zero, Nat.testBit_zero, Nat.testBit_zero]; simp
    | succ i =>
      rw [Nat.testBit_or, Nat.testBit_succ, Nat.testBit_succ, Nat.testBit_succ, show x * 2 / 2 = x by omega, show 1 / 2 = 0 from rfl, show (x * 2 + 1) / 2 = x by omega]
      simp
  rw [e, Nat.add_mul, Nat.one_mul]
theorem r_divide {a b : BitVec 64} (hb : b ≠ 0#64) (left : Bool) (k : Q (.inl (some (.long (jL (if left then a % b else a / b))))) σ) : wp_VectorSolverModel_divide Q σ (jL a) (jL b) (bI left) := by
  have hb0 : 0 < b.toNat := Nat.pos_of_ne_zero (fun q => hb (BitVec.eq_of_toNat_eq (by rw [q]; rfl)))
  have bl := b.isLt
  have al := a.isLt
  unfold wp_VectorSolverModel_divide
  have key := loop_m (σ := Nat × BitVec 64 × BitVec 64) (fun n s => w_VectorSolverModel_divide_10 Q n (jL a) (jL b) (bI left) (jL s.2.1) (jL s.2.2) (nI s.1 + -nI 1) σ) (fun s => s.1 ≤ 64 ∧ s.2.1.toNat = a.toNat / 2 ^ s.1 / b.toNat * 2 ^ s.1 ∧ s.2.2.toNat = a.toNat / 2 ^ s.1 % b.toNat) (fun s => s.1) (fun n s hI hs => ?_) (64, 0#64, 0#64) ⟨Nat.le_refl _, ?_, ?_⟩
  · obtain ⟨n, hn⟩ := key
    have hn : w_VectorSolverModel_divide_10 Q n (jL a) (jL b) (bI left) (jL 0#64) (jL 0#64) (nI 64 + -nI 1) σ := hn
    rw [show nI 64 + -nI 1 = 63 by decide] at hn
    exact ⟨n, hn⟩
  · obtain ⟨h0, h1, h2⟩ := hI
    show w_VectorSolverModel_divide_10 Q (n + 1) (jL a) (jL b) (bI left) (jL s.2.1) (jL s.2.2) (nI s.1 + -nI 1) σ
    unfold w_VectorSolverModel_divide_10
    simp (disch := omega) only [i32_lit, l64_lit, lc_eq, lc_ge, lc_le, lc_gt, lc_lt, jL_inj, jL_add, jL_sub, jL_mul, jL_neg, jL_and, jL_or, jL_xor, jL_mone, BitVec.xor_allOnes, nI_clamp, nI_ltI, nI_leI, nI_eq, nI_1, nI_add, nI_sub, nI_addm, nI_mul, vp_in_n, xi_pi, xi_pl, xl_pi, xl_pl, xb_pi, xb_pl, xqi_i, xql_l, xqv_v, xqi_e, xql_e, xqv_e, forall_eq, true_and, and_true, nI_m1lt, bI_0, jge0]
    refine ⟨fun q => ?_, fun q => ?_⟩
    · have s0 : s.1 = 0 := by omega
      rw [s0, Nat.pow_zero, Nat.div_one, Nat.mul_one] at h1
      rw [s0, Nat.pow_zero, Nat.div_one] at h2
      refine ⟨fun e => ?_, fun e => ?_⟩
      · rw [e] at k
        have : s.2.1 = a / b := BitVec.eq_of_toNat_eq (by rw [h1, BitVec.toNat_udiv])
        rw [this]
        exact k
      · have e2 : left = true := by
          cases left with
          | true => rfl
          | false => exact absurd rfl e
        rw [e2] at k
        have : s.2.2 = a % b := BitVec.eq_of_toNat_eq (by rw [h2, BitVec.toNat_umod])
        rw [this]
        exact k
    · have es : nI s.1 + -nI 1 = nI (s.1 - 1) := nI_addm (by omega)
      obtain ⟨m, hm⟩ : ∃ m, s.1 = m + 1 := ⟨s.1 - 1, by omega⟩
      have hm1 : s.1 - 1 = m := by omega
      rw [es, hm1]
      have m64 : m < 64 := by omega
      have pm := Nat.two_pow_pos m
      have rl : s.2.2.toNat < b.toNat := by rw [h2]; exact Nat.mod_lt _ hb0
      have dd : a.toNat / 2 ^ m = 2 * (a.toNat / 2 ^ s.1) + a.toNat / 2 ^ m % 2 := by
        rw [hm, Nat.pow_succ, ← Nat.div_div_eq_div_mul]
        omega
      obtain ⟨d1, d2⟩ := div_step (n := a.toNat / 2 ^ s.1) (c := a.toNat / 2 ^ m % 2) hb0 (by omega)
      rw [← dd, ← h2] at d1 d2
      have ol : a.toNat / 2 ^ m / b.toNat * 2 ^ m ≤ a.toNat := Nat.le_trans (Nat.mul_le_mul_right _ (Nat.div_le_self _ _)) (Nat.div_mul_le_self _ _)
      have x1n : ((s.2.2 <<< 1) ||| (a.sshiftRight m &&& 1#64)).toNat = (2 * s.2.2.toNat + a.toNat / 2 ^ m % 2) % 2 ^ 64 := by
        rw [BitVec.toNat_or, bit_k m64, BitVec.toNat_shiftLeft, Nat.shiftLeft_eq]
        have e3 : s.2.2.toNat * 2 ^ 1 % 2 ^ 64 = (s.2.2.toNat * 2 % 2 ^ 64) / 2 * 2 := by omega
        have e4 : a.toNat / 2 ^ m % 2 = 0 ∨ a.toNat / 2 ^ m % 2 = 1 := by omega
        rcases e4 with e4 | e4
        · rw [e4, Nat.or_zero]; omega
        · rw [e4, e3]
          have := or_pow (x := (s.2.2.toNat * 2 % 2 ^ 64) / 2) (k := 0)
          simp only [Nat.zero_add, Nat.pow_one, Nat.pow_zero] at this
          rw [this]
          omega
      have oN1 : s.2.1.toNat = a.toNat / 2 ^ s.1 / b.toNat * 2 ^ (m + 1) := by rw [h1, hm]
      have orn : (s.2.1 ||| (1#64 <<< m)).toNat = a.toNat / 2 ^ s.1 / b.toNat * 2 ^ (m + 1) + 2 ^ m := by
        rw [BitVec.toNat_or, oN1, BitVec.toNat_shiftLeft, Nat.shiftLeft_eq]
        have : 2 ^ m < 2 ^ 64 := Nat.pow_lt_pow_right (by decide) m64
        rw [show (1#64).toNat = 1 from rfl, Nat.one_mul, Nat.mod_eq_of_lt this, or_pow]
      have p2 : 2 ^ (m + 1) = 2 ^ m * 2 := Nat.pow_succ 2 m
      -- where it goes in once more
      have yes : b.toNat ≤ 2 * s.2.2.toNat + a.toNat / 2 ^ m % 2 → w_VectorSolverModel_divide_56 Q (w_VectorSolverModel_divide_10 Q n) (jL a) (jL b) (bI left) (jL s.2.1) (jL ((s.2.2 <<< 1) ||| (a.sshiftRight m &&& 1#64))) (nI m) σ := by
        intro hge
        unfold w_VectorSolverModel_divide_56
        rw [if_pos hge] at d1 d2
        simp (disch := omega) only [i32_lit, l64_lit, lc_eq, lc_ge, lc_le, lc_gt, lc_lt, jL_inj, jL_add, jL_sub, jL_mul, jL_neg, jL_and, jL_or, jL_xor, jL_mone, BitVec.xor_allOnes, nI_clamp, nI_ltI, nI_leI, nI_eq, nI_1, nI_add, nI_sub, nI_addm, nI_mul, vp_in_n, xi_pi, xi_pl, xl_pi, xl_pl, xb_pi, xb_pl, xqi_i, xql_l, xqv_v, xqi_e, xql_e, xqv_e, forall_eq, true_and, and_true]
        rw [jL_shl _ m64, jL_or]
        refine hs (m, _, _) ⟨by show m ≤ 64; omega, ?_, ?_⟩ (by show m < s.1; omega)
        · show (s.2.1 ||| (1#64 <<< m)).toNat = a.toNat / 2 ^ m / b.toNat * 2 ^ m
          rw [orn, d1, p2, Nat.add_mul, Nat.one_mul, Nat.mul_comm 2, Nat.mul_assoc, Nat.mul_comm 2]
        · show (((s.2.2 <<< 1) ||| (a.sshiftRight m &&& 1#64)) - b).toNat = a.toNat / 2 ^ m % b.toNat
          rw [BitVec.toNat_sub, x1n, d2]
          omega
      have go : ∀ o : Bool, (o = true → 2 ^ 63 ≤ s.2.2.toNat) → (o = false → s.2.2.toNat < 2 ^ 63) → w_VectorSolverModel_divide_27 Q (w_VectorSolverModel_divide_10 Q n) (jL a) (jL b) (bI left) (jL s.2.1) (jL s.2.2) (nI m) (bI o) σ := by
        intro o o1 o2
        unfold w_VectorSolverModel_divide_27
        rw [show (1 : Int32) = nI 1 from rfl, jL_shl _ (show 1 < 64 by decide), jL_sshr _ m64]
        simp (disch := omega) only [i32_lit, l64_lit, lc_eq, lc_ge, lc_le, lc_gt, lc_lt, jL_inj, jL_add, jL_sub, jL_mul, jL_neg, jL_and, jL_or, jL_xor, jL_mone, BitVec.xor_allOnes, nI_clamp, nI_ltI, nI_leI, nI_eq, nI_1, nI_add, nI_sub, nI_addm, nI_mul, vp_in_n, xi_pi, xi_pl, xl_pi, xl_pl, xb_pi, xb_pl, xqi_i, xql_l, xqv_v, xqi_e, xql_e, xqv_e, forall_eq, true_and, and_true, bI_0]
        refine ⟨fun e => yes ?_, fun e => ?_⟩
        · have := o1 (by
            cases o with
            | true => rfl
            | false => exact absurd rfl e)
          omega
        · have lt63 := o2 e
          have x1e : ((s.2.2 <<< 1) ||| (a.sshiftRight m &&& 1#64)).toNat = 2 * s.2.2.toNat + a.toNat / 2 ^ m % 2 := by rw [x1n]; omega
          refine r_below ?_
          rw [xqi_i]
          simp (disch := omega) only [i32_lit, l64_lit, lc_eq, lc_ge, lc_le, lc_gt, lc_lt, jL_inj, jL_add, jL_sub, jL_mul, jL_neg, jL_and, jL_or, jL_xor, jL_mone, BitVec.xor_allOnes, nI_clamp, nI_ltI, nI_leI, nI_eq, nI_1, nI_add, nI_sub, nI_addm, nI_mul, vp_in_n, xi_pi, xi_pl, xl_pi, xl_pl, xb_pi, xb_pl, xqi_i, xql_l, xqv_v, xqi_e, xql_e, xqv_e, forall_eq, true_and, and_true, bI_0]
          unfold ltB
          rw [x1e]
          refine ⟨fun c => ?_, fun c => yes (by have := of_decide_eq_false c; omega)⟩
          have nl : ¬ b.toNat ≤ 2 * s.2.2.toNat + a.toNat / 2 ^ m % 2 := by
            intro q2
            rw [decide_eq_false (by omega)] at c
            exact c rfl
          rw [if_neg nl] at d1 d2
          refine hs (m, s.2.1, (s.2.2 <<< 1) ||| (a.sshiftRight m &&& 1#64)) ⟨by show m ≤ 64; omega, ?_, ?_⟩ (by show m < s.1; omega)
          · show s.2.1.toNat = a.toNat / 2 ^ m / b.toNat * 2 ^ m
            rw [oN1, d1, p2, Nat.add_zero, Nat.mul_comm 2, Nat.mul_assoc, Nat.mul_comm 2]
          · show ((s.2.2 <<< 1) ||| (a.sshiftRight m &&& 1#64)).toNat = a.toNat / 2 ^ m % b.toNat
            rw [x1e, d2]
      exact ⟨fun e => go false (fun q => by cases q) (fun _ => e), fun e => go true (fun _ => Nat.not_lt.mp e) (fun q => by cases q)⟩
  · show (0#64).toNat = a.toNat / 2 ^ 64 / b.toNat * 2 ^ 64
    rw [Nat.div_eq_of_lt al, Nat.zero_div, Nat.zero_mul]; rfl
  · show (0#64).toNat = a.toNat / 2 ^ 64 % b.toNat
    rw [Nat.div_eq_of_lt al, Nat.zero_mod]; rfl
end RD
