section RT
variable {Q : xO → xS → Prop} {σ : xS}
theorem bv_mod {x y : BitVec 64} (hy : y ≠ 0#64) : x - (x / y) * y = x % y := by
  have hb0 : 0 < y.toNat := Nat.pos_of_ne_zero (fun q => hy (BitVec.eq_of_toNat_eq (by rw [q]; rfl)))
  have xl := x.isLt
  have h1 := Nat.div_add_mod x.toNat y.toNat
  have h2 := Nat.div_mul_le_self x.toNat y.toNat
  apply BitVec.eq_of_toNat_eq
  rw [BitVec.toNat_sub, BitVec.toNat_mul, BitVec.toNat_udiv, BitVec.toNat_umod, Nat.mod_eq_of_lt (a := x.toNat / y.toNat * y.toNat) (by omega)]
  rw [Nat.mul_comm] at h1
  omega
theorem msb_63 (x : BitVec 64) : x.msb = true ↔ 2 ^ 63 ≤ x.toNat := by
  rw [BitVec.msb_eq_true_iff_two_mul_ge]
  omega
theorem neg_ne {x : BitVec 64} (h : x ≠ 0#64) : -x ≠ 0#64 := fun q => h (by
  apply BitVec.eq_of_toNat_eq
  have := congrArg BitVec.toNat q
  rw [BitVec.toNat_neg] at this
  have xl := x.isLt
  have z : (0#64).toNat = 0 := rfl
  rw [z] at this ⊢
  omega)
def absV (x : BitVec 64) : BitVec 64 := if x.toNat < 2 ^ 63 then x else -x
theorem absV_ne {x : BitVec 64} (h : x ≠ 0#64) : absV x ≠ 0#64 := by
  unfold absV
  split
  · exact h
  · exact neg_ne h
theorem sdiv_abs {x y : BitVec 64} : x.sdiv y = if (x.toNat < 2 ^ 63) = (y.toNat < 2 ^ 63) then absV x / absV y else -(absV x / absV y) := by
  rw [BitVec.sdiv_eq]
  unfold absV
  by_cases hx : x.toNat < 2 ^ 63
  · have mx : x.msb = false := Bool.eq_false_iff.mpr (fun q => by have := (msb_63 x).mp q; omega)
    by_cases hy : y.toNat < 2 ^ 63
    · have my : y.msb = false := Bool.eq_false_iff.mpr (fun q => by have := (msb_63 y).mp q; omega)
      rw [mx, my, if_pos hx, if_pos hy, if_pos (by simp [hx, hy])]
      rfl
    · have my : y.msb = true := (msb_63 y).mpr (by omega)
      rw [mx, my, if_pos hx, if_neg hy, if_neg (by simp [hx, hy])]
      rfl
  · have mx : x.msb = true := (msb_63 x).mpr (by omega)
    by_cases hy : y.toNat < 2 ^ 63
    · have my : y.msb = false := Bool.eq_false_iff.mpr (fun q => by have := (msb_63 y).mp q; omega)
      rw [mx, my, if_neg hx, if_pos hy, if_neg (by simp [hx, hy])]
      rfl
    · have my : y.msb = true := (msb_63 y).mpr (by omega)
      rw [mx, my, if_neg hx, if_neg hy, if_pos (by simp [hx, hy])]
      rfl
theorem lin1 (x m : BitVec 64) : x - -m = -(-x - m) := by
  apply BitVec.eq_of_toNat_eq
  have := x.isLt
  have := m.isLt
  simp only [BitVec.toNat_sub, BitVec.toNat_neg]
  omega
theorem lin2 (x m : BitVec 64) : x - m = -(-x - -m) := by
  apply BitVec.eq_of_toNat_eq
  have := x.isLt
  have := m.isLt
  simp only [BitVec.toNat_sub, BitVec.toNat_neg]
  omega
theorem srem_abs {x y : BitVec 64} (hy : y ≠ 0#64) : x - x.sdiv y * y = if x.toNat < 2 ^ 63 then absV x % absV y else -(absV x % absV y) := by
  rw [sdiv_abs, ← bv_mod (absV_ne hy)]
  unfold absV
  by_cases hx : x.toNat < 2 ^ 63
  · by_cases hy2 : y.toNat < 2 ^ 63
    · rw [if_pos hx, if_pos hy2, if_pos (by simp [hx, hy2]), if_pos hx]
    · rw [if_pos hx, if_neg hy2, if_neg (by simp [hx, hy2]), if_pos hx, BitVec.neg_mul, BitVec.mul_neg]
  · by_cases hy2 : y.toNat < 2 ^ 63
    · rw [if_neg hx, if_pos hy2, if_neg (by simp [hx, hy2]), if_neg hx, BitVec.neg_mul]
      exact lin1 _ _
    · rw [if_neg hx, if_neg hy2, if_pos (by simp [hx, hy2]), if_neg hx, BitVec.mul_neg]
      exact lin2 _ _
theorem slt_neg (x : BitVec 64) : x.slt 0#64 = decide (¬ x.toNat < 2 ^ 63) := by
  cases h : x.slt 0#64 with
  | true => rw [decide_eq_true (by have := (slt_0 x).mp h; omega)]
  | false =>
    rw [decide_eq_false]
    intro q
    rw [(slt_0 x).mpr (by omega)] at h
    cases h
theorem r_divided {o w : Nat} {a b : BitVec 64} (ho : 18 ≤ o ∧ o ≤ 21) (h1 : 1 ≤ w) (h2 : w ≤ 64) (k : Q (.inl (some (.long (jL (two (o + 11) a b w))))) σ) : wp_VectorSolverModel_divided Q σ (nI o) (jL a) (jL b) (nI w) := by
  unfold wp_VectorSolverModel_divided
  simp (disch := omega) only [i32_lit, l64_lit, lc_eq, lc_ge, lc_le, lc_gt, lc_lt, jL_inj, jL_add, jL_sub, jL_mul, jL_neg, jL_and, jL_or, jL_xor, jL_mone, BitVec.xor_allOnes, nI_clamp, nI_ltI, nI_leI, nI_eq, nI_1, nI_add, nI_sub, nI_addm, nI_mul, vp_in_n, xi_pi, xi_pl, xl_pi, xl_pl, xb_pi, xb_pl, xqi_i, xql_l, xqv_v, xqi_e, xql_e, xqv_e, forall_eq, true_and, and_true]
  refine ⟨fun z => ?_, fun z => ?_⟩
  · refine r_signed h1 h2 ?_
    rw [xql_l]
    refine r_signed h1 h2 ?_
    rw [xql_l]
    have t31 : two 31 a b w = if sgn b w = 0#64 then (if (sgn a w).slt 0#64 then 1#64 else BitVec.allOnes 64) else (sgn a w).sdiv (sgn b w) := rfl
    have t32 : two 32 a b w = if sgn b w = 0#64 then sgn a w else sgn a w - (sgn a w).sdiv (sgn b w) * sgn b w := rfl
    have k20 : o = 20 → Q (.inl (some (.long (jL (two 31 a b w))))) σ := fun e => by rw [e] at k; exact k
    have k21 : o = 21 → Q (.inl (some (.long (jL (two 32 a b w))))) σ := fun e => by rw [e] at k; exact k
    rw [t31] at k20
    rw [t32] at k21
    generalize sgn a w = x at k20 k21 ⊢
    generalize sgn b w = y at k20 k21 ⊢
    simp (disch := omega) only [i32_lit, l64_lit, lc_eq, lc_ge, lc_le, lc_gt, lc_lt, jL_inj, jL_add, jL_sub, jL_mul, jL_neg, jL_and, jL_or, jL_xor, jL_mone, BitVec.xor_allOnes, nI_clamp, nI_ltI, nI_leI, nI_eq, nI_1, nI_add, nI_sub, nI_addm, nI_mul, vp_in_n, xi_pi, xi_pl, xl_pi, xl_pl, xb_pi, xb_pl, xqi_i, xql_l, xqv_v, xqi_e, xql_e, xqv_e, forall_eq, true_and, and_true, jge0]
    refine ⟨fun zy => ?_, fun zy => ⟨fun e => ⟨fun c => ?_, fun c => ?_⟩, fun e => ?_⟩⟩
    · have k20 : o = 20 → Q (.inl (some (.long (jL (x.sdiv y))))) σ := fun e => by have := k20 e; rw [if_neg zy] at this; exact this
      have k21 : o = 21 → Q (.inl (some (.long (jL (x - x.sdiv y * y))))) σ := fun e => by have := k21 e; rw [if_neg zy] at this; exact this
      rw [sdiv_abs] at k20
      rw [srem_abs zy] at k21
      have fin : ∀ (m : Bool) (r : BitVec 64), (m = true → Q (.inl (some (.long (jL (-r))))) σ) → (m = false → Q (.inl (some (.long (jL r)))) σ) → w_VectorSolverModel_divided_193 Q (jL r) (bI m) σ := by
        intro m r f1 f2
        unfold w_VectorSolverModel_divided_193
        simp (disch := omega) only [i32_lit, l64_lit, lc_eq, lc_ge, lc_le, lc_gt, lc_lt, jL_inj, jL_add, jL_sub, jL_mul, jL_neg, jL_and, jL_or, jL_xor, jL_mone, BitVec.xor_allOnes, nI_clamp, nI_ltI, nI_leI, nI_eq, nI_1, nI_add, nI_sub, nI_addm, nI_mul, vp_in_n, xi_pi, xi_pl, xl_pi, xl_pl, xb_pi, xb_pl, xqi_i, xql_l, xqv_v, xqi_e, xql_e, xqv_e, forall_eq, true_and, and_true, bI_0]
        refine ⟨fun e => f2 e, fun e => f1 ?_⟩
        cases m with
        | true => rfl
        | false => exact absurd rfl e
      have q135 : w_VectorSolverModel_divided_124 Q (nI o) (jL x) (jL y) (jL (absV x)) (jL (absV y)) σ := by
        unfold w_VectorSolverModel_divided_124
        simp (disch := omega) only [i32_lit, l64_lit, lc_eq, lc_ge, lc_le, lc_gt, lc_lt, jL_inj, jL_add, jL_sub, jL_mul, jL_neg, jL_and, jL_or, jL_xor, jL_mone, BitVec.xor_allOnes, nI_clamp, nI_ltI, nI_leI, nI_eq, nI_1, nI_add, nI_sub, nI_addm, nI_mul, vp_in_n, xi_pi, xi_pl, xl_pi, xl_pl, xb_pi, xb_pl, xqi_i, xql_l, xqv_v, xqi_e, xql_e, xqv_e, forall_eq, true_and, and_true]
        refine ⟨fun e => ?_, fun e => ?_⟩
        · have e0 : o = 20 := by omega
          have k20 := k20 e0
          unfold w_VectorSolverModel_divided_135
          refine r_divide (absV_ne zy) false ?_
          rw [xql_l]
          simp (disch := omega) only [i32_lit, l64_lit, lc_eq, lc_ge, lc_le, lc_gt, lc_lt, jL_inj, jL_add, jL_sub, jL_mul, jL_neg, jL_and, jL_or, jL_xor, jL_mone, BitVec.xor_allOnes, nI_clamp, nI_ltI, nI_leI, nI_eq, nI_1, nI_add, nI_sub, nI_addm, nI_mul, vp_in_n, xi_pi, xi_pl, xl_pi, xl_pl, xb_pi, xb_pl, xqi_i, xql_l, xqv_v, xqi_e, xql_e, xqv_e, forall_eq, true_and, and_true, jge0]
          refine ⟨fun _ => ?_, fun q => absurd q e⟩
          have q173 : ∀ sx : Bool, (sx = true ↔ ¬ x.toNat < 2 ^ 63) → w_VectorSolverModel_divided_173 Q (jL y) (jL (absV x / absV y)) (bI sx) σ := by
            intro sx hsx
            have q185 : ∀ sy : Bool, (sy = true ↔ ¬ y.toNat < 2 ^ 63) → w_VectorSolverModel_divided_185 Q (jL (absV x / absV y)) (bI sx) (bI sy) σ := by
              intro sy hsy
              unfold w_VectorSolverModel_divided_185
              have same : (bI sx = bI sy) ↔ (x.toNat < 2 ^ 63) = (y.toNat < 2 ^ 63) := by
                have : (bI sx = bI sy) ↔ sx = sy := by cases sx <;> cases sy <;> decide
                rw [this]
                constructor
                · intro q
                  apply propext
                  have h3 : sx = true ↔ sy = true := by rw [q]
                  rw [hsx, hsy] at h3
                  omega
                · intro q
                  have h3 : sx = true ↔ sy = true := by rw [hsx, hsy, q]
                  revert h3
                  cases sx <;> cases sy <;> simp
              refine ⟨fun q => fin false _ (fun n => by cases n) (fun _ => ?_), fun q => fin true _ (fun _ => ?_) (fun n => by cases n)⟩
              · rw [if_pos (same.mp q)] at k20; exact k20
              · rw [if_neg (fun n => q (same.mpr n))] at k20; exact k20
            unfold w_VectorSolverModel_divided_173
            simp (disch := omega) only [i32_lit, l64_lit, lc_eq, lc_ge, lc_le, lc_gt, lc_lt, jL_inj, jL_add, jL_sub, jL_mul, jL_neg, jL_and, jL_or, jL_xor, jL_mone, BitVec.xor_allOnes, nI_clamp, nI_ltI, nI_leI, nI_eq, nI_1, nI_add, nI_sub, nI_addm, nI_mul, vp_in_n, xi_pi, xi_pl, xl_pi, xl_pl, xb_pi, xb_pl, xqi_i, xql_l, xqv_v, xqi_e, xql_e, xqv_e, forall_eq, true_and, and_true, jge0]
            exact ⟨fun q => q185 false ⟨fun n => (by cases n), fun n => absurd q n⟩, fun q => q185 true ⟨fun _ => q, fun _ => rfl⟩⟩
          exact ⟨fun q => q173 false ⟨fun n => (by cases n), fun n => absurd q n⟩, fun q => q173 true ⟨fun _ => q, fun _ => rfl⟩⟩
        · have k21 := k21 e
          unfold w_VectorSolverModel_divided_135
          refine r_divide (absV_ne zy) true ?_
          rw [xql_l]
          simp (disch := omega) only [i32_lit, l64_lit, lc_eq, lc_ge, lc_le, lc_gt, lc_lt, jL_inj, jL_add, jL_sub, jL_mul, jL_neg, jL_and, jL_or, jL_xor, jL_mone, BitVec.xor_allOnes, nI_clamp, nI_ltI, nI_leI, nI_eq, nI_1, nI_add, nI_sub, nI_addm, nI_mul, vp_in_n, xi_pi, xi_pl, xl_pi, xl_pl, xb_pi, xb_pl, xqi_i, xql_l, xqv_v, xqi_e, xql_e, xqv_e, forall_eq, true_and, and_true, jge0]
          refine ⟨fun q => absurd e q, fun _ => ⟨fun q => fin false _ (fun n => by cases n) (fun _ => ?_), fun q => fin true _ (fun _ => ?_) (fun n => by cases n)⟩⟩
          · rw [if_pos q] at k21; exact k21
          · rw [if_neg q] at k21; exact k21
      have q109 : w_VectorSolverModel_divided_109 Q (nI o) (jL x) (jL y) (jL (absV x)) σ := by
        unfold w_VectorSolverModel_divided_109
        simp (disch := omega) only [i32_lit, l64_lit, lc_eq, lc_ge, lc_le, lc_gt, lc_lt, jL_inj, jL_add, jL_sub, jL_mul, jL_neg, jL_and, jL_or, jL_xor, jL_mone, BitVec.xor_allOnes, nI_clamp, nI_ltI, nI_leI, nI_eq, nI_1, nI_add, nI_sub, nI_addm, nI_mul, vp_in_n, xi_pi, xi_pl, xl_pi, xl_pl, xb_pi, xb_pl, xqi_i, xql_l, xqv_v, xqi_e, xql_e, xqv_e, forall_eq, true_and, and_true, jge0]
        refine ⟨fun q => ?_, fun q => ?_⟩
        · have : absV y = y := if_pos q
          rw [this] at q135; exact q135
        · have : absV y = -y := if_neg q
          rw [this] at q135; exact q135
      refine ⟨fun q => ?_, fun q => ?_⟩
      · have : absV x = x := if_pos q
        rw [this] at q109; exact q109
      · have : absV x = -x := if_neg q
        rw [this] at q109; exact q109
    · have e0 : o = 20 := by omega
      have := k20 e0
      rw [if_pos zy, slt_neg, decide_eq_false (fun n => n c)] at this
      exact this
    · have e0 : o = 20 := by omega
      have := k20 e0
      rw [if_pos zy, slt_neg, decide_eq_true c] at this
      exact this
    · have := k21 e
      rw [if_pos zy] at this
      exact this
  · have o' : o = 18 ∨ o = 19 := by omega
    refine ⟨fun zb => ⟨fun e => ?_, fun e => ?_⟩, fun zb => ⟨fun e => ?_, fun e => ?_⟩⟩
    · have e8 : o = 18 := by omega
      unfold w_VectorSolverModel_divided_41
      refine r_divide zb false ?_
      rw [xql_l]
      subst e8
      have : two (18 + 11) a b w = a / b := if_neg zb
      rw [this] at k
      exact k
    · unfold w_VectorSolverModel_divided_41
      refine r_divide zb true ?_
      rw [xql_l]
      subst e
      have : two (19 + 11) a b w = a % b := by
        show a - udiv a b * b = _
        unfold udiv
        rw [if_neg zb, bv_mod zb]
      rw [this] at k
      exact k
    · have e9 : o = 19 := by omega
      subst e9
      have : two (19 + 11) a b w = a := by
        show a - udiv a b * b = a
        rw [zb, BitVec.mul_zero]
        exact BitVec.sub_zero a
      rw [this] at k
      exact k
    · subst e
      have : two (18 + 11) a b w = BitVec.allOnes 64 := if_pos zb
      rw [this] at k
      exact k
theorem sgn_top {a : BitVec 64} {w : Nat} (h1 : 1 ≤ w) (h2 : w ≤ 64) : (sgn a w).sshiftRight (w - 1) = if (sgn a w).toNat < 2 ^ 63 then 0#64 else BitVec.allOnes 64 := by
  have hm : (sgn a w).msb = decide (¬ (sgn a w).toNat < 2 ^ 63) := by
    cases h : (sgn a w).msb with
    | true => rw [decide_eq_true (by have := (msb_63 _).mp h; omega)]
    | false =>
      rw [decide_eq_false]
      intro q
      rw [(msb_63 _).mpr (by omega)] at h
      cases h
  have ms : (sgn a w).msb = a.getLsbD (w - 1) := by
    rw [BitVec.msb_eq_getLsbD_last, sgn_bit h1 h2 (by decide)]
    by_cases e : 64 - 1 < w
    · rw [if_pos e, show 64 - 1 = w - 1 by omega]
    · rw [if_neg e]
  apply BitVec.eq_of_getLsbD_eq
  intro i hi
  have all : ((sgn a w).sshiftRight (w - 1)).getLsbD i = (sgn a w).msb := by
    rw [BitVec.getLsbD_sshiftRight, decide_eq_false (show ¬ 64 ≤ i by omega)]
    by_cases e : w - 1 + i < 64
    · rw [if_pos e, sgn_bit h1 h2 e, ms]
      by_cases c : w - 1 + i < w
      · rw [if_pos c, show w - 1 + i = w - 1 by omega]; rfl
      · rw [if_neg c]; rfl
    · rw [if_neg e]; rfl
  rw [all, hm]
  by_cases c : (sgn a w).toNat < 2 ^ 63
  · rw [if_pos c, decide_eq_false (fun n => n c)]; simp
  · rw [if_neg c, decide_eq_true c, BitVec.getLsbD_allOnes, decide_eq_true hi]
theorem r_shifted {o w : Nat} {a b : BitVec 64} (ho : 22 ≤ o ∧ o ≤ 24) (h1 : 1 ≤ w) (h2 : w ≤ 64) (k : Q (.inl (some (.long (jL (two (o + 11) a b w))))) σ) : wp_VectorSolverModel_shifted Q σ (nI o) (jL a) (jL b) (nI w) := by
  have wn : (BitVec.ofNat 64 w).toNat = w := by rw [BitVec.toNat_ofNat]; omega
  have go : ∀ x : BitVec 64, (o = 24 → x = sgn a w) → (o ≠ 24 → x = a) → w_VectorSolverModel_shifted_16 Q (nI o) (jL b) (nI w) (jL x) σ := by
    intro x x1 x2
    unfold w_VectorSolverModel_shifted_16
    rw [jL_i2l (by omega)]
    refine r_below ?_
    rw [xqi_i]
    simp (disch := omega) only [i32_lit, l64_lit, lc_eq, lc_ge, lc_le, lc_gt, lc_lt, jL_inj, jL_add, jL_sub, jL_mul, jL_neg, jL_and, jL_or, jL_xor, jL_mone, BitVec.xor_allOnes, nI_clamp, nI_ltI, nI_leI, nI_eq, nI_1, nI_add, nI_sub, nI_addm, nI_mul, vp_in_n, xi_pi, xi_pl, xl_pi, xl_pl, xb_pi, xb_pl, xqi_i, xql_l, xqv_v, xqi_e, xql_e, xqv_e, forall_eq, true_and, and_true, bI_0, jge0, jL_l2i]
    have lt : ltB b (BitVec.ofNat 64 w) = decide (b.toNat < w) := by unfold ltB; rw [wn]
    rw [lt]
    refine ⟨fun c => ?_, fun c => ?_⟩
    · have bw : b.toNat < w := by
        apply Classical.byContradiction
        intro n
        exact c (decide_eq_false n)
      refine ⟨fun c2 => ⟨fun c4 => ?_, fun c4 => ?_⟩, fun c2 => ?_⟩
      · have e3 : o = 23 := by omega
        rw [jL_ushr _ (by omega), x2 c4]
        rw [e3, two_34, if_pos bw] at k
        exact k
      · rw [jL_sshr _ (by omega), x1 c4]
        rw [c4, two_35] at k
        unfold sshf at k
        rw [if_pos bw] at k
        exact k
      · rw [jL_shl _ (by omega), x2 (by omega)]
        rw [c2, two_33, if_pos bw] at k
        exact k
    · have bw := of_decide_eq_false c
      have n24 : o ≠ 24 → Q (.inl (some (.long (jL 0#64)))) σ := fun n => by
        by_cases e2 : o = 22
        · rw [e2, two_33, if_neg bw] at k; exact k
        · rw [show o = 23 by omega, two_34, if_neg bw] at k; exact k
      have y24 : o = 24 → Q (.inl (some (.long (jL (if (sgn a w).toNat < 2 ^ 63 then 0#64 else BitVec.allOnes 64))))) σ := fun e => by
        rw [e, two_35] at k
        unfold sshf at k
        rw [if_neg bw, sgn_top h1 h2] at k
        exact k
      refine ⟨fun c2 => ?_, fun c2 => ⟨fun c4 => n24 c4, fun c4 => ?_⟩⟩
      · by_cases c4 : o = 24
        · have := y24 c4
          rw [← x1 c4, if_pos c2] at this
          exact this
        · exact n24 c4
      · have := y24 c4
        rw [← x1 c4, if_neg c2] at this
        exact this
  unfold wp_VectorSolverModel_shifted
  simp (disch := omega) only [i32_lit, l64_lit, lc_eq, lc_ge, lc_le, lc_gt, lc_lt, jL_inj, jL_add, jL_sub, jL_mul, jL_neg, jL_and, jL_or, jL_xor, jL_mone, BitVec.xor_allOnes, nI_clamp, nI_ltI, nI_leI, nI_eq, nI_1, nI_add, nI_sub, nI_addm, nI_mul, vp_in_n, xi_pi, xi_pl, xl_pi, xl_pl, xb_pi, xb_pl, xqi_i, xql_l, xqv_v, xqi_e, xql_e, xqv_e, forall_eq, true_and, and_true]
  refine ⟨fun c => go a (fun e => absurd e c) (fun _ => rfl), fun c => ?_⟩
  refine r_signed h1 h2 ?_
  rw [xql_l]
  exact go _ (fun _ => rfl) (fun n => absurd c n)
/-- two arguments of the class's operator o + 11 -/
noncomputable def bthA (c : Nat) (a b : BitVec 64) (w : Nat) : BitVec 64 := if c < 28 then fop c a b else two c a b w
theorem r_both {o w : Nat} {a b : BitVec 64} (ho : o = 3 ∨ o = 4 ∨ o = 5 ∨ (12 ≤ o ∧ o ≤ 24)) (h1 : 18 ≤ o → 1 ≤ w) (h2 : w ≤ 64) (k : Q (.inl (some (.long (jL (bthA (o + 11) a b w))))) σ) : wp_VectorSolverModel_both Q σ (nI o) (jL a) (jL b) (nI w) := by
  unfold bthA at k
  unfold wp_VectorSolverModel_both
  simp (disch := omega) only [i32_lit, l64_lit, lc_eq, lc_ge, lc_le, lc_gt, lc_lt, jL_inj, jL_add, jL_sub, jL_mul, jL_neg, jL_and, jL_or, jL_xor, jL_mone, BitVec.xor_allOnes, nI_clamp, nI_ltI, nI_leI, nI_eq, nI_1, nI_add, nI_sub, nI_addm, nI_mul, vp_in_n, xi_pi, xi_pl, xl_pi, xl_pl, xb_pi, xb_pl, xqi_i, xql_l, xqv_v, xqi_e, xql_e, xqv_e, forall_eq, true_and, and_true]
  refine ⟨fun z => ?_, fun z => ?_, fun z => ?_, fun z => ?_, fun z => ?_, fun z => ?_, fun z => ?_, fun z => ?_⟩
  · rw [if_pos (by omega)] at k
    unfold fop at k
    rw [if_pos (by omega)] at k
    exact k
  · rw [if_pos (by omega)] at k
    unfold fop at k
    rw [if_neg (by omega), if_pos (by omega)] at k
    exact k
  · rw [if_pos (by omega)] at k
    unfold fop at k
    rw [if_neg (by omega), if_neg (by omega), if_pos (by omega)] at k
    exact k
  · rw [if_pos (by omega)] at k
    unfold fop at k
    rw [if_neg (by omega), if_neg (by omega), if_neg (by omega), if_pos (by omega)] at k
    exact k
  · rw [if_pos (by omega)] at k
    unfold fop at k
    rw [if_neg (by omega), if_neg (by omega), if_neg (by omega), if_neg (by omega)] at k
    exact k
  · rw [if_neg (by omega), z] at k
    exact k
  · rw [if_neg (by omega)] at k
    refine r_divided (by omega) (h1 (by omega)) h2 ?_
    rw [xql_l]
    exact k
  · rw [if_neg (by omega)] at k
    refine r_shifted (by omega) (h1 (by omega)) h2 ?_
    rw [xql_l]
    exact k
theorem sgn_slt {a b : BitVec 64} {w : Nat} (h1 : 1 ≤ w) (h2 : w ≤ 64) (ha : a.toNat < 2 ^ w) (hb : b.toNat < 2 ^ w) : (sgn a w).slt (sgn b w) = ltB (a ^^^ (1#64 <<< (w - 1))) (b ^^^ (1#64 <<< (w - 1))) := by
  unfold ltB
  rw [BitVec.slt, sgn_int h1 h2 ha, sgn_int h1 h2 hb]
  exact decide_eq_decide.mpr ⟨fun q => by omega, fun q => by omega⟩
theorem r_compares {o w : Nat} {a b : BitVec 64} (ho : 25 ≤ o ∧ o ≤ 32) (h1 : 1 ≤ w) (h2 : w ≤ 64) (ha : a.toNat < 2 ^ w) (hb : b.toNat < 2 ^ w) (k : ∀ r : Bool, (r = true ↔ cmpA (o + 11) a b w) → Q (.inl (some (.int (bI r)))) σ) : wp_VectorSolverModel_compares Q σ (nI o) (jL a) (jL b) (nI w) := by
  have T0 : ∀ x : BitVec 64, o < 29 → x ^^^ turn (o + 11) w = x := fun x h => by unfold turn; rw [if_pos (by omega), BitVec.xor_zero]
  have T1 : 29 ≤ o → turn (o + 11) w = 1#64 <<< (w - 1) := fun h => by unfold turn; rw [if_neg (by omega)]
  have bt : ∀ r : Bool, (bI r = nI 0 ∨ bI r = nI 1) := fun r => by cases r <;> decide
  have cm : cmpA (o + 11) a b w ↔ (if o = 25 ∨ o = 29 then ltB (a ^^^ turn (o + 11) w) (b ^^^ turn (o + 11) w) = true else if o = 26 ∨ o = 30 then ltB (b ^^^ turn (o + 11) w) (a ^^^ turn (o + 11) w) = false else if o = 27 ∨ o = 31 then ltB (b ^^^ turn (o + 11) w) (a ^^^ turn (o + 11) w) = true else ltB (a ^^^ turn (o + 11) w) (b ^^^ turn (o + 11) w) = false) := by
    unfold cmpA ltB
    by_cases e1 : o = 25 ∨ o = 29
    · rw [if_pos e1, if_pos (by omega), decide_eq_true_eq]
    · rw [if_neg e1, if_neg (by omega)]
      by_cases e2 : o = 26 ∨ o = 30
      · rw [if_pos e2, if_pos (by omega), decide_eq_false_iff_not]
      · rw [if_neg e2, if_neg (by omega)]
        by_cases e3 : o = 27 ∨ o = 31
        · rw [if_pos e3, if_pos (by omega), decide_eq_true_eq]
        · rw [if_neg e3, if_neg (by omega), decide_eq_false_iff_not]
  have lg : ∀ x y : BitVec 64, (jL x < jL y) = (x.slt y = true) := fun x y => rfl
  have le : ∀ x y : BitVec 64, (jL x ≤ jL y) = (y.slt x = false) := fun x y => by
    apply propext
    rw [Int64.le_iff_toInt_le]
    have h3 : (jL y < jL x) ↔ y.slt x = true := Iff.rfl
    rw [Int64.lt_iff_toInt_lt] at h3
    constructor
    · intro q
      apply Bool.eq_false_iff.mpr
      intro c
      have := h3.mpr c
      omega
    · intro q
      apply Int.not_lt.mp
      intro c
      rw [h3.mp c] at q
      cases q
  unfold wp_VectorSolverModel_compares
  simp (disch := omega) only [i32_lit, l64_lit, lc_eq, lc_ge, lc_le, lc_gt, lc_lt, jL_inj, jL_add, jL_sub, jL_mul, jL_neg, jL_and, jL_or, jL_xor, jL_mone, BitVec.xor_allOnes, nI_clamp, nI_ltI, nI_leI, nI_eq, nI_1, nI_add, nI_sub, nI_addm, nI_mul, vp_in_n, xi_pi, xi_pl, xl_pi, xl_pl, xb_pi, xb_pl, xqi_i, xql_l, xqv_v, xqi_e, xql_e, xqv_e, forall_eq, true_and, and_true]
  refine ⟨fun z => ?_, fun z => ?_, fun z => ?_, fun z => ?_, fun z => ?_, fun z => ?_, fun z => ?_, fun z => ?_⟩
  · refine r_below ?_
    rw [xqi_i]
    refine ⟨bt _, k _ ?_⟩
    rw [cm, if_pos (by omega), T0 a (by omega), T0 b (by omega)]
  · refine r_below ?_
    rw [xqi_i]
    simp (disch := omega) only [i32_lit, l64_lit, lc_eq, lc_ge, lc_le, lc_gt, lc_lt, jL_inj, jL_add, jL_sub, jL_mul, jL_neg, jL_and, jL_or, jL_xor, jL_mone, BitVec.xor_allOnes, nI_clamp, nI_ltI, nI_leI, nI_eq, nI_1, nI_add, nI_sub, nI_addm, nI_mul, vp_in_n, xi_pi, xi_pl, xl_pi, xl_pl, xb_pi, xb_pl, xqi_i, xql_l, xqv_v, xqi_e, xql_e, xqv_e, forall_eq, true_and, and_true, bI_0]
    refine ⟨fun c => k false ?_, fun c => k true ?_⟩
    · rw [cm, if_neg (by omega), if_pos (by omega), T0 a (by omega), T0 b (by omega)]
      exact ⟨fun q => (by cases q), fun q => absurd q c⟩
    · rw [cm, if_neg (by omega), if_pos (by omega), T0 a (by omega), T0 b (by omega)]
      exact ⟨fun _ => c, fun _ => rfl⟩
  · refine r_below ?_
    rw [xqi_i]
    refine ⟨bt _, k _ ?_⟩
    rw [cm, if_neg (by omega), if_neg (by omega), if_pos (by omega), T0 a (by omega), T0 b (by omega)]
  · refine r_below ?_
    rw [xqi_i]
    simp (disch := omega) only [i32_lit, l64_lit, lc_eq, lc_ge, lc_le, lc_gt, lc_lt, jL_inj, jL_add, jL_sub, jL_mul, jL_neg, jL_and, jL_or, jL_xor, jL_mone, BitVec.xor_allOnes, nI_clamp, nI_ltI, nI_leI, nI_eq, nI_1, nI_add, nI_sub, nI_addm, nI_mul, vp_in_n, xi_pi, xi_pl, xl_pi, xl_pl, xb_pi, xb_pl, xqi_i, xql_l, xqv_v, xqi_e, xql_e, xqv_e, forall_eq, true_and, and_true, bI_0]
    refine ⟨fun c => k false ?_, fun c => k true ?_⟩
    · rw [cm, if_neg (by omega), if_neg (by omega), if_neg (by omega), T0 a (by omega), T0 b (by omega)]
      exact ⟨fun q => (by cases q), fun q => absurd q c⟩
    · rw [cm, if_neg (by omega), if_neg (by omega), if_neg (by omega), T0 a (by omega), T0 b (by omega)]
      exact ⟨fun _ => c, fun _ => rfl⟩
  · refine r_signed h1 h2 ?_
    rw [xql_l]
    refine r_signed h1 h2 ?_
    rw [xql_l]
    simp (disch := omega) only [i32_lit, l64_lit, lc_eq, lc_ge, lc_le, lc_gt, lc_lt, jL_inj, jL_add, jL_sub, jL_mul, jL_neg, jL_and, jL_or, jL_xor, jL_mone, BitVec.xor_allOnes, nI_clamp, nI_ltI, nI_leI, nI_eq, nI_1, nI_add, nI_sub, nI_addm, nI_mul, vp_in_n, xi_pi, xi_pl, xl_pi, xl_pl, xb_pi, xb_pl, xqi_i, xql_l, xqv_v, xqi_e, xql_e, xqv_e, forall_eq, true_and, and_true, le]
    rw [sgn_slt h1 h2 ha hb]
    refine ⟨fun c => k false ?_, fun c => k true ?_⟩
    · rw [cm, if_pos (by omega), T1 (by omega), c]
    · rw [cm, if_pos (by omega), T1 (by omega)]
      exact ⟨fun _ => by cases q : ltB (a ^^^ (1#64 <<< (w - 1))) (b ^^^ (1#64 <<< (w - 1))) with
        | true => rfl
        | false => exact absurd q c, fun _ => rfl⟩
  · refine r_signed h1 h2 ?_
    rw [xql_l]
    refine r_signed h1 h2 ?_
    rw [xql_l]
    simp (disch := omega) only [i32_lit, l64_lit, lc_eq, lc_ge, lc_le, lc_gt, lc_lt, jL_inj, jL_add, jL_sub, jL_mul, jL_neg, jL_and, jL_or, jL_xor, jL_mone, BitVec.xor_allOnes, nI_clamp, nI_ltI, nI_leI, nI_eq, nI_1, nI_add, nI_sub, nI_addm, nI_mul, vp_in_n, xi_pi, xi_pl, xl_pi, xl_pl, xb_pi, xb_pl, xqi_i, xql_l, xqv_v, xqi_e, xql_e, xqv_e, forall_eq, true_and, and_true, lg]
    rw [sgn_slt h1 h2 hb ha]
    refine ⟨fun c => k false ?_, fun c => k true ?_⟩
    · rw [cm, if_neg (by omega), if_pos (by omega), T1 (by omega), c]
      exact ⟨fun q => (by cases q), fun q => by cases q⟩
    · rw [cm, if_neg (by omega), if_pos (by omega), T1 (by omega)]
      exact ⟨fun _ => Bool.eq_false_iff.mpr c, fun _ => rfl⟩
  · refine r_signed h1 h2 ?_
    rw [xql_l]
    refine r_signed h1 h2 ?_
    rw [xql_l]
    simp (disch := omega) only [i32_lit, l64_lit, lc_eq, lc_ge, lc_le, lc_gt, lc_lt, jL_inj, jL_add, jL_sub, jL_mul, jL_neg, jL_and, jL_or, jL_xor, jL_mone, BitVec.xor_allOnes, nI_clamp, nI_ltI, nI_leI, nI_eq, nI_1, nI_add, nI_sub, nI_addm, nI_mul, vp_in_n, xi_pi, xi_pl, xl_pi, xl_pl, xb_pi, xb_pl, xqi_i, xql_l, xqv_v, xqi_e, xql_e, xqv_e, forall_eq, true_and, and_true, le]
    rw [sgn_slt h1 h2 hb ha]
    refine ⟨fun c => k false ?_, fun c => k true ?_⟩
    · rw [cm, if_neg (by omega), if_neg (by omega), if_pos (by omega), T1 (by omega), c]
    · rw [cm, if_neg (by omega), if_neg (by omega), if_pos (by omega), T1 (by omega)]
      exact ⟨fun _ => by cases q : ltB (b ^^^ (1#64 <<< (w - 1))) (a ^^^ (1#64 <<< (w - 1))) with
        | true => rfl
        | false => exact absurd q c, fun _ => rfl⟩
  · refine r_signed h1 h2 ?_
    rw [xql_l]
    refine r_signed h1 h2 ?_
    rw [xql_l]
    simp (disch := omega) only [i32_lit, l64_lit, lc_eq, lc_ge, lc_le, lc_gt, lc_lt, jL_inj, jL_add, jL_sub, jL_mul, jL_neg, jL_and, jL_or, jL_xor, jL_mone, BitVec.xor_allOnes, nI_clamp, nI_ltI, nI_leI, nI_eq, nI_1, nI_add, nI_sub, nI_addm, nI_mul, vp_in_n, xi_pi, xi_pl, xl_pi, xl_pl, xb_pi, xb_pl, xqi_i, xql_l, xqv_v, xqi_e, xql_e, xqv_e, forall_eq, true_and, and_true, lg]
    rw [sgn_slt h1 h2 ha hb]
    refine ⟨fun c => k false ?_, fun c => k true ?_⟩
    · rw [cm, if_neg (by omega), if_neg (by omega), if_neg (by omega), T1 (by omega), c]
      exact ⟨fun q => (by cases q), fun q => by cases q⟩
    · rw [cm, if_neg (by omega), if_neg (by omega), if_neg (by omega), T1 (by omega)]
      exact ⟨fun _ => Bool.eq_false_iff.mpr c, fun _ => rfl⟩
end RT
