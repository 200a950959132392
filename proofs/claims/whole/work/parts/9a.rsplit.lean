/-! THE REFERENCE SPLITS ITS TEXT -/
def RTB (σ : xS) (c : Nat → Nat) (l : Nat) : Prop := xi σ 50 3 = nI l ∧ l ≤ 65536 ∧ ∀ i, i < l → c i < 256 ∧ xi σ 51 i = sb (c i)
def rkI (K : Nat) : Int32 := if K = 19 then 0 else if K < 16 then nI (K + 1) else -nI (K - 16)
def ridx (n : Nat) : Nat := if n < 10 then n + 39 else opr n
def rix (r : Option Nat) : Int32 := supI (r.map ridx)
theorem nar_rk : ∀ K, K < 32 → vp_nar .byte ((rkI K).toInt8.toInt32) = rkI K := by decide +kernel
theorem nar_ix : ∀ n, n < 47 → vp_nar .byte ((nI (ridx n)).toInt8.toInt32) = nI (ridx n) := by decide +kernel
theorem nar_m1 : vp_nar .byte ((-1 : Int32).toInt8.toInt32) = -1 := by decide +kernel
theorem ridx_qn : ∀ m, m < 47 → ridx (qn m) = m + 2 := by decide +kernel
section RSPL
variable {σ σ' : xS} {Q : xO → xS → Prop} {c : Nat → Nat} {l p q f o : Nat}
theorem r_kow (T : RTB σ c l) (hq : q ≤ l) (hp : p < q) (k : Q (.inl (some (.int (rkI (kow c p q))))) σ) : wp_VectorSolverModel_kindOf Q σ (nI p) (nI q) := by
  have l1 := T.2.1
  have b := T.2.2 p (by omega)
  have e6 : kow c p q = 18 → Q (.inl (some (.int (-2)))) σ := fun h => by rw [h] at k; exact k
  unfold wp_VectorSolverModel_kindOf
  simp (disch := omega) only [i32_lit, l64_lit, lc_eq, lc_ge, lc_le, lc_gt, lc_lt, jL_inj, jL_add, jL_sub, jL_mul, jL_neg, jL_and, jL_or, jL_xor, jL_mone, BitVec.xor_allOnes, nI_clamp, nI_ltI, nI_leI, nI_eq, nI_1, nI_add, nI_sub, nI_addm, nI_mul, vp_in_n, xi_pi, xi_pl, xl_pi, xl_pl, xb_pi, xb_pl, xqi_i, xql_l, xqv_v, xqi_e, xql_e, xqv_e, forall_eq, true_and, and_true, b.2]
  refine r_dig b.1 ?_
  rw [xqi_i]
  cases d : dig (c p) with
  | true =>
    refine ⟨fun z => absurd z (by decide), fun _ => ?_⟩
    simp (disch := omega) only [i32_lit, l64_lit, lc_eq, lc_ge, lc_le, lc_gt, lc_lt, jL_inj, jL_add, jL_sub, jL_mul, jL_neg, jL_and, jL_or, jL_xor, jL_mone, BitVec.xor_allOnes, nI_clamp, nI_ltI, nI_leI, nI_eq, nI_1, nI_add, nI_sub, nI_addm, nI_mul, vp_in_n, xi_pi, xi_pl, xl_pi, xl_pl, xb_pi, xb_pl, xqi_i, xql_l, xqv_v, xqi_e, xql_e, xqv_e, forall_eq, true_and, and_true, sb_eq b.1]
    have key := loop_i (σ := Bool) (fun n j r => w_VectorSolverModel_kindOf_37 Q n (nI q) (bI r) (nI j) σ) (fun j r => p ≤ j ∧ (r = true ↔ (c p ≠ 48 ∨ q = p + 1) ∧ ∀ i, i < j → p ≤ i → dig (c i) = true)) q (fun n r hI => ?_) (fun n j r hj hI hs => ?_)
    · have st : ∀ r, (r = true ↔ (c p ≠ 48 ∨ q = p + 1)) → ∃ m, w_VectorSolverModel_kindOf_37 Q m (nI q) (bI r) (nI p) σ := fun r hr => ⟨q + 1, key (q + 1) p r (by omega) (by omega) ⟨Nat.le_refl _, ⟨fun x => ⟨hr.mp x, fun i h1 h2 => absurd h1 (by omega)⟩, fun x => hr.mpr x.1⟩⟩⟩
      unfold w_VectorSolverModel_kindOf_27
      refine ⟨fun z => st true ⟨fun _ => .inl z, fun _ => rfl⟩, fun z => ⟨fun z2 => st false ⟨fun x => (by cases x), fun x => absurd x (by omega)⟩, fun z2 => st true ⟨fun _ => .inr (by omega), fun _ => rfl⟩⟩⟩
    · unfold w_VectorSolverModel_kindOf_37
      simp (disch := omega) only [i32_lit, l64_lit, lc_eq, lc_ge, lc_le, lc_gt, lc_lt, jL_inj, jL_add, jL_sub, jL_mul, jL_neg, jL_and, jL_or, jL_xor, jL_mone, BitVec.xor_allOnes, nI_clamp, nI_ltI, nI_leI, nI_eq, nI_1, nI_add, nI_sub, nI_addm, nI_mul, vp_in_n, xi_pi, xi_pl, xl_pi, xl_pl, xb_pi, xb_pl, xqi_i, xql_l, xqv_v, xqi_e, xql_e, xqv_e, forall_eq, true_and, and_true, bI_0]
      have al : (∀ i, i < q → p ≤ i → dig (c i) = true) ↔ alD c 10 p q = true := by
        unfold alD
        simp only [dlt_10, decide_eq_true_eq]
      refine ⟨fun _ => ⟨fun z => ?_, fun z => ?_⟩, fun z => absurd z (by omega)⟩
      · refine e6 ?_
        unfold kow
        rw [if_pos d, if_neg (fun x => ?_)]
        have := hI.2.mpr ⟨x.1, al.mpr x.2⟩
        rw [z] at this
        cases this
      · have rt : r = true := by cases x : r with
          | true => rfl
          | false => exact absurd x z
        have h := hI.2.mp rt
        have : kow c p q = 2 := by unfold kow; rw [if_pos d, if_pos ⟨h.1, al.mp h.2⟩]
        rw [this] at k
        exact k
    · have b1 := T.2.2 j (by omega)
      have nx : ∀ r', (r' = true ↔ r = true ∧ dig (c j) = true) → (r' = true ↔ (c p ≠ 48 ∨ q = p + 1) ∧ ∀ i, i < j + 1 → p ≤ i → dig (c i) = true) := fun r' h => by
        rw [h, hI.2]
        constructor
        · rintro ⟨⟨h1, h2⟩, h3⟩
          refine ⟨h1, fun i i1 i2 => ?_⟩
          by_cases ei : i = j
          · rw [ei]; exact h3
          · exact h2 i (by omega) i2
        · rintro ⟨h1, h2⟩
          exact ⟨⟨h1, fun i i1 i2 => h2 i (by omega) i2⟩, h2 j (by omega) hI.1⟩
      unfold w_VectorSolverModel_kindOf_37
      simp (disch := omega) only [i32_lit, l64_lit, lc_eq, lc_ge, lc_le, lc_gt, lc_lt, jL_inj, jL_add, jL_sub, jL_mul, jL_neg, jL_and, jL_or, jL_xor, jL_mone, BitVec.xor_allOnes, nI_clamp, nI_ltI, nI_leI, nI_eq, nI_1, nI_add, nI_sub, nI_addm, nI_mul, vp_in_n, xi_pi, xi_pl, xl_pi, xl_pl, xb_pi, xb_pl, xqi_i, xql_l, xqv_v, xqi_e, xql_e, xqv_e, forall_eq, true_and, and_true, bI_0, b1.2]
      refine ⟨fun z => absurd z (by omega), fun _ => ⟨fun z => ?_, fun z => ?_⟩⟩
      · exact hs false ⟨by omega, nx false ⟨fun x => (by cases x), fun x => (by rw [z] at x; cases x.1)⟩⟩
      · have rt : r = true := by cases x : r with
          | true => rfl
          | false => exact absurd x z
        refine r_dig b1.1 ?_
        rw [xqi_i]
        simp (disch := omega) only [i32_lit, l64_lit, lc_eq, lc_ge, lc_le, lc_gt, lc_lt, jL_inj, jL_add, jL_sub, jL_mul, jL_neg, jL_and, jL_or, jL_xor, jL_mone, BitVec.xor_allOnes, nI_clamp, nI_ltI, nI_leI, nI_eq, nI_1, nI_add, nI_sub, nI_addm, nI_mul, vp_in_n, xi_pi, xi_pl, xl_pi, xl_pl, xb_pi, xb_pl, xqi_i, xql_l, xqv_v, xqi_e, xql_e, xqv_e, forall_eq, true_and, and_true, bI_0]
        refine ⟨fun y => ?_, fun y => ?_⟩
        · exact hs false ⟨by omega, nx false ⟨fun x => (by cases x), fun x => (by rw [y] at x; cases x.2)⟩⟩
        · have dt : dig (c j) = true := by cases x : dig (c j) with
            | true => rfl
            | false => exact absurd x y
          exact hs true ⟨by omega, nx true ⟨fun _ => ⟨rt, dt⟩, fun _ => rfl⟩⟩
  | false =>
    refine ⟨fun _ => ?_, fun n => absurd (by decide) n⟩
    simp (disch := omega) only [i32_lit, l64_lit, lc_eq, lc_ge, lc_le, lc_gt, lc_lt, jL_inj, jL_add, jL_sub, jL_mul, jL_neg, jL_and, jL_or, jL_xor, jL_mone, BitVec.xor_allOnes, nI_clamp, nI_ltI, nI_leI, nI_eq, nI_1, nI_add, nI_sub, nI_addm, nI_mul, vp_in_n, xi_pi, xi_pl, xl_pi, xl_pl, xb_pi, xb_pl, xqi_i, xql_l, xqv_v, xqi_e, xql_e, xqv_e, forall_eq, true_and, and_true, sb_eq b.1]
    refine ⟨fun z => ⟨fun s => ?_, fun s => ?_⟩, fun z => ?_⟩
    · have ko : (if c (p + 1) = 98 ∧ q ≤ p + 66 ∧ alD c 2 (p + 2) q = true then 3 else if c (p + 1) = 120 ∧ q ≤ p + 18 ∧ alD c 16 (p + 2) q = true then 4 else 18) = kow c p q := by
        unfold kow
        rw [if_neg (c := dig (c p) = true) (by rw [d]; decide), if_neg (c := c p ≠ 35) (by omega), if_neg (c := q < p + 3) (by omega)]
      have b1 := T.2.2 (p + 1) (by omega)
      simp (disch := omega) only [i32_lit, l64_lit, lc_eq, lc_ge, lc_le, lc_gt, lc_lt, jL_inj, jL_add, jL_sub, jL_mul, jL_neg, jL_and, jL_or, jL_xor, jL_mone, BitVec.xor_allOnes, nI_clamp, nI_ltI, nI_leI, nI_eq, nI_1, nI_add, nI_sub, nI_addm, nI_mul, vp_in_n, xi_pi, xi_pl, xl_pi, xl_pl, xb_pi, xb_pl, xqi_i, xql_l, xqv_v, xqi_e, xql_e, xqv_e, forall_eq, true_and, and_true, b1.2, sb_eq b1.1]
      have lp : ∀ r, (r = true ↔ (c (p + 1) = 98 ∧ q ≤ p + 66) ∨ (c (p + 1) = 120 ∧ q ≤ p + 18)) → w_VectorSolverModel_kindOf_158 Q (nI p) (nI q) (sb (c (p + 1))) (bI r) σ := by
        intro r0 hr
        unfold w_VectorSolverModel_kindOf_158
        intro x5 e5
        rw [show (2 : Int32) = nI 2 from rfl, nI_add] at e5
        subst e5
        have key := loop_i (σ := Bool) (fun n j r => w_VectorSolverModel_kindOf_165 Q n (nI q) (sb (c (p + 1))) (bI r) (nI j) σ) (fun j r => p + 2 ≤ j ∧ (r = true ↔ r0 = true ∧ ∀ i, i < j → p + 2 ≤ i → dlt (dgv (c i)) (if c (p + 1) = 120 then 16 else 2) = true)) q (fun n r hI => ?_) (fun n j r hj hI hs => ?_)
        · exact ⟨q + 1, key (q + 1) (p + 2) r0 (by omega) (by omega) ⟨Nat.le_refl _, fun x => ⟨x, fun i h1 h2 => absurd h1 (by omega)⟩, fun x => x.1⟩⟩
        · unfold w_VectorSolverModel_kindOf_165
          simp (disch := omega) only [i32_lit, l64_lit, lc_eq, lc_ge, lc_le, lc_gt, lc_lt, jL_inj, jL_add, jL_sub, jL_mul, jL_neg, jL_and, jL_or, jL_xor, jL_mone, BitVec.xor_allOnes, nI_clamp, nI_ltI, nI_leI, nI_eq, nI_1, nI_add, nI_sub, nI_addm, nI_mul, vp_in_n, xi_pi, xi_pl, xl_pi, xl_pl, xb_pi, xb_pl, xqi_i, xql_l, xqv_v, xqi_e, xql_e, xqv_e, forall_eq, true_and, and_true, bI_0, sb_eq b1.1]
          refine ⟨fun _ => ⟨fun y => ⟨fun n98 => ?_, fun y98 => ?_⟩, fun y => ?_⟩, fun z => absurd z (by omega)⟩
          · have rt : r = true := by cases x : r with
              | true => rfl
              | false => exact absurd x y
            obtain ⟨g1, g2⟩ := hI.2.mp rt
            have y120 : c (p + 1) = 120 ∧ q ≤ p + 18 := by
              rcases hr.mp g1 with g | g
              · exact absurd g.1 n98
              · exact g
            rw [if_pos y120.1] at g2
            rw [if_neg (fun x => n98 x.1), if_pos ⟨y120.1, y120.2, decide_eq_true g2⟩] at ko
            rw [← ko] at k
            exact k
          · have rt : r = true := by cases x : r with
              | true => rfl
              | false => exact absurd x y
            obtain ⟨g1, g2⟩ := hI.2.mp rt
            have y66 : q ≤ p + 66 := by
              rcases hr.mp g1 with g | g
              · exact g.2
              · omega
            rw [if_neg (by omega)] at g2
            rw [if_pos ⟨y98, y66, decide_eq_true g2⟩] at ko
            rw [← ko] at k
            exact k
          · refine e6 ?_
            rw [← ko]
            have no : ∀ (h0 : r0 = true) (h1 : ∀ i, i < q → p + 2 ≤ i → dlt (dgv (c i)) (if c (p + 1) = 120 then 16 else 2) = true), False := fun h0 h1 => by
              have := hI.2.mpr ⟨h0, h1⟩
              rw [y] at this
              cases this
            rw [if_neg, if_neg]
            · rintro ⟨g1, g2, g3⟩
              have g3 := of_decide_eq_true g3
              refine no (hr.mpr (.inr ⟨g1, g2⟩)) ?_
              rw [if_pos g1]
              exact g3
            · rintro ⟨g1, g2, g3⟩
              have g3 := of_decide_eq_true g3
              refine no (hr.mpr (.inl ⟨g1, g2⟩)) ?_
              rw [if_neg (by omega)]
              exact g3
        · have b2 := T.2.2 j (by omega)
          have nx : ∀ r', (r' = true ↔ r = true ∧ dlt (dgv (c j)) (if c (p + 1) = 120 then 16 else 2) = true) → (r' = true ↔ r0 = true ∧ ∀ i, i < j + 1 → p + 2 ≤ i → dlt (dgv (c i)) (if c (p + 1) = 120 then 16 else 2) = true) := fun r' h => by
            rw [h, hI.2]
            constructor
            · rintro ⟨⟨h1, h2⟩, h3⟩
              refine ⟨h1, fun i i1 i2 => ?_⟩
              by_cases ei : i = j
              · rw [ei]; exact h3
              · exact h2 i (by omega) i2
            · rintro ⟨h1, h2⟩
              exact ⟨⟨h1, fun i i1 i2 => h2 i (by omega) i2⟩, h2 j (by omega) hI.1⟩
          unfold w_VectorSolverModel_kindOf_165
          simp (disch := omega) only [i32_lit, l64_lit, lc_eq, lc_ge, lc_le, lc_gt, lc_lt, jL_inj, jL_add, jL_sub, jL_mul, jL_neg, jL_and, jL_or, jL_xor, jL_mone, BitVec.xor_allOnes, nI_clamp, nI_ltI, nI_leI, nI_eq, nI_1, nI_add, nI_sub, nI_addm, nI_mul, vp_in_n, xi_pi, xi_pl, xl_pi, xl_pl, xb_pi, xb_pl, xqi_i, xql_l, xqv_v, xqi_e, xql_e, xqv_e, forall_eq, true_and, and_true, bI_0, b2.2]
          refine ⟨fun z => absurd z (by omega), fun _ => ?_⟩
          refine r_digit b2.1 ?_
          rw [xqi_i]
          have fl : (r = false ∨ dlt (dgv (c j)) (if c (p + 1) = 120 then 16 else 2) = false) → w_VectorSolverModel_kindOf_165 Q n (nI q) (sb (c (p + 1))) (bI false) (nI (j + 1)) σ := fun h => hs false ⟨by omega, nx false ⟨fun x => (by cases x), fun x => (by rcases h with h | h <;> rw [h] at x <;> cases x.1 <;> cases x.2)⟩⟩
          have tr : r = true → dlt (dgv (c j)) (if c (p + 1) = 120 then 16 else 2) = true → w_VectorSolverModel_kindOf_206 Q (w_VectorSolverModel_kindOf_165 Q n) (nI q) (sb (c (p + 1))) (nI j) σ := fun h1 h2 => by
            unfold w_VectorSolverModel_kindOf_206
            intro x10 e10
            rw [show (1 : Int32) = nI 1 from rfl, nI_add] at e10
            subst e10
            exact hs true ⟨by omega, nx true ⟨fun _ => ⟨h1, h2⟩, fun _ => rfl⟩⟩
          simp (disch := omega) only [i32_lit, l64_lit, lc_eq, lc_ge, lc_le, lc_gt, lc_lt, jL_inj, jL_add, jL_sub, jL_mul, jL_neg, jL_and, jL_or, jL_xor, jL_mone, BitVec.xor_allOnes, nI_clamp, nI_ltI, nI_leI, nI_eq, nI_1, nI_add, nI_sub, nI_addm, nI_mul, vp_in_n, xi_pi, xi_pl, xl_pi, xl_pl, xb_pi, xb_pl, xqi_i, xql_l, xqv_v, xqi_e, xql_e, xqv_e, forall_eq, true_and, and_true, bI_0, sb_eq b1.1]
          refine ⟨fun y => fl (.inl y), fun y => ?_⟩
          have rt : r = true := by cases x : r with
            | true => rfl
            | false => exact absurd x y
          cases dd : dgv (c j) with
          | none => exact ⟨fun _ => fl (.inr (by rw [dd]; rfl)), fun n => absurd (by decide) n⟩
          | some v =>
            have v1 := dgv_lt dd
            rw [dd] at tr fl
            have sv : supI (some v) = nI v := rfl
            rw [sv]
            simp (disch := omega) only [i32_lit, l64_lit, lc_eq, lc_ge, lc_le, lc_gt, lc_lt, jL_inj, jL_add, jL_sub, jL_mul, jL_neg, jL_and, jL_or, jL_xor, jL_mone, BitVec.xor_allOnes, nI_clamp, nI_ltI, nI_leI, nI_eq, nI_1, nI_add, nI_sub, nI_addm, nI_mul, vp_in_n, xi_pi, xi_pl, xl_pi, xl_pl, xb_pi, xb_pl, xqi_i, xql_l, xqv_v, xqi_e, xql_e, xqv_e, forall_eq, true_and, and_true]
            refine ⟨fun z => absurd z (by omega), fun _ => ⟨fun y120 => tr rt (by rw [if_pos y120]; exact decide_eq_true v1), fun n120 => ⟨fun y2 => fl (.inr (by rw [if_neg n120]; exact decide_eq_false (by omega))), fun y2 => tr rt (by rw [if_neg n120]; exact decide_eq_true (by omega))⟩⟩⟩
      unfold w_VectorSolverModel_kindOf_157
      refine ⟨fun n98 => ⟨fun n120 => lp false ⟨fun x => (by cases x), fun x => absurd x (by omega)⟩, fun y120 => ⟨fun y => lp false ⟨fun x => (by cases x), fun x => absurd x (by omega)⟩, fun y => lp true ⟨fun _ => .inr (by omega), fun _ => rfl⟩⟩⟩, fun y98 => ⟨fun y => lp false ⟨fun x => (by cases x), fun x => absurd x (by omega)⟩, fun y => lp true ⟨fun _ => .inl (by omega), fun _ => rfl⟩⟩⟩
    · refine e6 ?_
      unfold kow
      rw [if_neg (c := dig (c p) = true) (by rw [d]; decide), if_neg (c := c p ≠ 35) (by omega), if_pos (by omega)]
    · rw [kow_5.mpr ⟨d, z⟩] at k
      exact k
theorem r_resOf (T : RTB σ c l) (hq : q ≤ l) (hp : p < q) (hw : ∀ i, p ≤ i → i < q → isW (c i) = true) (k : Q (.inl (some (.int (rix (rsv (wtx c p q)))))) σ) : wp_VectorSolverModel_reservedOf Q σ (nI p) (nI q) := by
  have l1 := T.2.1
  have wl : ∀ m, m < 47 → (rws (qn m)).length < 16 := fun m hm => (rws_f _ (rws_g m hm).1).2.2.1
  have key := loop_i (σ := Option Nat) (fun n m fd => w_VectorSolverModel_reservedOf_8 Q n (nI p) (nI q) (nI (rg m)) (supI fd) (nI (m + 2)) σ) (fun m fd => (fd = none ∧ ∀ i, i < m → rws (qn i) ≠ wtx c p q) ∨ ∃ i, i < m ∧ rws (qn i) = wtx c p q ∧ fd = some (i + 2)) 47 (fun n fd hI => ?_) (fun n m fd hm hI hs => ?_)
  · unfold wp_VectorSolverModel_reservedOf
    intro x1 e1
    subst e1
    exact ⟨48, key 48 0 none (by decide) (by decide) (.inl ⟨rfl, fun i hi => absurd hi (by omega)⟩)⟩
  · unfold w_VectorSolverModel_reservedOf_8
    refine p_len2 ?_
    rw [xqi_i, rg_47]
    refine ⟨fun _ => ?_, fun n => absurd (by decide) n⟩
    rcases hI with ⟨h1, h2⟩ | ⟨i, h1, h2, h3⟩
    · have : rsv (wtx c p q) = none := rsv_no (fun n hn => by
        obtain ⟨m, m1, m2⟩ := qn_all n hn
        rw [← m2]
        exact h2 m m1)
      rw [this] at k
      rw [h1]
      exact k
    · rw [rsv_eq (rws_g i h1).1 h2] at k
      unfold rix at k
      rw [Option.map_some, ridx_qn i h1] at k
      rw [h3]
      exact k
  · obtain ⟨g0, g1, g2, g3, g4⟩ := rws_g m hm
    have wl := wl m hm
    have r1 : rg (m + 1) = rg m + 1 + (rws (qn m)).length := rfl
    have r5 : rg m < 296 := by omega
    have e95 : ∀ fd' : Option Nat, ((fd' = none ∧ ∀ i, i < m + 1 → rws (qn i) ≠ wtx c p q) ∨ ∃ i, i < m + 1 ∧ rws (qn i) = wtx c p q ∧ fd' = some (i + 2)) → ∃ m2, w_VectorSolverModel_reservedOf_95 Q (w_VectorSolverModel_reservedOf_8 Q n) m2 (nI p) (nI q) (nI (rg m + 1)) (supI fd') (nI (m + 2)) σ := fun fd' h' => by
      have k2 : ∀ j i, i + j = (rws (qn m)).length → w_VectorSolverModel_reservedOf_95 Q (w_VectorSolverModel_reservedOf_8 Q n) (j + 1) (nI p) (nI q) (nI (rg m + 1 + i)) (supI fd') (nI (m + 2)) σ := by
        intro j
        induction j with
        | zero =>
          intro i hi
          unfold w_VectorSolverModel_reservedOf_95
          refine p_charAt2 (by omega) ?_
          rw [xqi_i, show i = (rws (qn m)).length by omega, g3]
          refine ⟨fun _ x7 e7 => ?_, fun n => absurd rfl n⟩
          rw [show (1 : Int32) = nI 1 from rfl, nI_add] at e7
          subst e7
          have := hs fd' h'
          rw [r1] at this
          exact this
        | succ j ih =>
          intro i hi
          have gi := g4 i (by omega)
          unfold w_VectorSolverModel_reservedOf_95
          refine p_charAt2 (by omega) ?_
          have cl := (xch_2 (rg m + 1 + i) (by omega)).2.2
          rw [xqi_i]
          refine ⟨fun z => ?_, fun _ x8 e8 => ?_⟩
          · have : chc 2 (rg m + 1 + i) = 32 := (nI_eq (by omega) (by decide)).mp z
            rw [gi.1] at this
            exact absurd this gi.2
          · rw [show (1 : Int32) = nI 1 from rfl, nI_add] at e8
            subst e8
            exact ih (i + 1) (by omega)
      exact ⟨_, k2 (rws (qn m)).length 0 (by omega)⟩
    have keep : rws (qn m) ≠ wtx c p q → ((fd = none ∧ ∀ i, i < m + 1 → rws (qn i) ≠ wtx c p q) ∨ ∃ i, i < m + 1 ∧ rws (qn i) = wtx c p q ∧ fd = some (i + 2)) := fun h => by
      rcases hI with ⟨h1, h2⟩ | ⟨i, h1, h2, h3⟩
      · refine .inl ⟨h1, fun i hi => ?_⟩
        by_cases ei : i = m
        · rw [ei]; exact h
        · exact h2 i (by omega)
      · exact .inr ⟨i, by omega, h2, h3⟩
    have e59 : ∀ i, i ≤ (rws (qn m)).length → i ≤ q - p → (∀ i', i' < i → c (p + i') = (rws (qn m)).getD i' 0) → (p + i = q ∨ (p + i < q ∧ chc 2 (rg m + 1 + i) ≠ c (p + i))) → w_VectorSolverModel_reservedOf_59 Q (w_VectorSolverModel_reservedOf_8 Q n) (nI p) (nI q) (nI (rg m)) (supI fd) (nI (m + 2)) (nI i) σ := fun i h1 h2 h3 h4 => by
      unfold w_VectorSolverModel_reservedOf_59
      simp (disch := omega) only [i32_lit, l64_lit, lc_eq, lc_ge, lc_le, lc_gt, lc_lt, jL_inj, jL_add, jL_sub, jL_mul, jL_neg, jL_and, jL_or, jL_xor, jL_mone, BitVec.xor_allOnes, nI_clamp, nI_ltI, nI_leI, nI_eq, nI_1, nI_add, nI_sub, nI_addm, nI_mul, vp_in_n, xi_pi, xi_pl, xl_pi, xl_pl, xb_pi, xb_pl, xqi_i, xql_l, xqv_v, xqi_e, xql_e, xqv_e, forall_eq, true_and, and_true]
      refine ⟨fun z => ?_, fun z => ?_⟩
      · refine e95 fd (keep (fun h => ?_))
        have h5 := h4.resolve_left z
        have := wtx_eq.mp h.symm
        have g := g4 i (by omega)
        rw [g.1, ← this.2 i (by omega)] at h5
        exact h5.2 rfl
      · refine p_charAt2 (by omega) ?_
        have cl := (xch_2 (rg m + 1 + i) (by omega)).2.2
        rw [xqi_i]
        simp (disch := omega) only [i32_lit, l64_lit, lc_eq, lc_ge, lc_le, lc_gt, lc_lt, jL_inj, jL_add, jL_sub, jL_mul, jL_neg, jL_and, jL_or, jL_xor, jL_mone, BitVec.xor_allOnes, nI_clamp, nI_ltI, nI_leI, nI_eq, nI_1, nI_add, nI_sub, nI_addm, nI_mul, vp_in_n, xi_pi, xi_pl, xl_pi, xl_pl, xb_pi, xb_pl, xqi_i, xql_l, xqv_v, xqi_e, xql_e, xqv_e, forall_eq, true_and, and_true]
        refine ⟨fun y => ?_, fun y => ?_⟩
        · refine e95 fd (keep (fun h => ?_))
          have := (wtx_eq.mp h.symm).1
          rw [show i = (rws (qn m)).length by omega] at y
          exact y g3
        · have il : i = (rws (qn m)).length := by
            apply Classical.byContradiction
            intro ne
            have g := g4 i (by omega)
            rw [g.1] at y
            exact g.2 y
          refine e95 (some (m + 2)) (.inr ⟨m, Nat.lt_succ_self _, ?_, rfl⟩)
          exact (wtx_eq.mpr ⟨by omega, fun i' hi' => h3 i' (by omega)⟩).symm
    unfold w_VectorSolverModel_reservedOf_8
    refine p_len2 ?_
    rw [xqi_i]
    simp (disch := omega) only [i32_lit, l64_lit, lc_eq, lc_ge, lc_le, lc_gt, lc_lt, jL_inj, jL_add, jL_sub, jL_mul, jL_neg, jL_and, jL_or, jL_xor, jL_mone, BitVec.xor_allOnes, nI_clamp, nI_ltI, nI_leI, nI_eq, nI_1, nI_add, nI_sub, nI_addm, nI_mul, vp_in_n, xi_pi, xi_pl, xl_pi, xl_pl, xb_pi, xb_pl, xqi_i, xql_l, xqv_v, xqi_e, xql_e, xqv_e, forall_eq, true_and, and_true]
    refine ⟨fun z => absurd z (by omega), fun _ => ?_⟩
    have k3 : ∀ j i, i + j = q - p → i ≤ (rws (qn m)).length → (∀ i', i' < i → c (p + i') = (rws (qn m)).getD i' 0) → w_VectorSolverModel_reservedOf_22 Q (w_VectorSolverModel_reservedOf_8 Q n) (j + 1) (nI p) (nI q) (nI (rg m)) (supI fd) (nI (m + 2)) (nI i) σ := by
      intro j
      induction j with
      | zero =>
        intro i hi h1 h3
        unfold w_VectorSolverModel_reservedOf_22
        simp (disch := omega) only [i32_lit, l64_lit, lc_eq, lc_ge, lc_le, lc_gt, lc_lt, jL_inj, jL_add, jL_sub, jL_mul, jL_neg, jL_and, jL_or, jL_xor, jL_mone, BitVec.xor_allOnes, nI_clamp, nI_ltI, nI_leI, nI_eq, nI_1, nI_add, nI_sub, nI_addm, nI_mul, vp_in_n, xi_pi, xi_pl, xl_pi, xl_pl, xb_pi, xb_pl, xqi_i, xql_l, xqv_v, xqi_e, xql_e, xqv_e, forall_eq, true_and, and_true]
        exact ⟨fun _ => e59 i h1 (by omega) h3 (.inl (by omega)), fun z => absurd z (by omega)⟩
      | succ j ih =>
        intro i hi h1 h3
        have b2 := T.2.2 (p + i) (by omega)
        have wi := isW_lt b2.1 (hw (p + i) (by omega) (by omega))
        unfold w_VectorSolverModel_reservedOf_22
        simp (disch := omega) only [i32_lit, l64_lit, lc_eq, lc_ge, lc_le, lc_gt, lc_lt, jL_inj, jL_add, jL_sub, jL_mul, jL_neg, jL_and, jL_or, jL_xor, jL_mone, BitVec.xor_allOnes, nI_clamp, nI_ltI, nI_leI, nI_eq, nI_1, nI_add, nI_sub, nI_addm, nI_mul, vp_in_n, xi_pi, xi_pl, xl_pi, xl_pl, xb_pi, xb_pl, xqi_i, xql_l, xqv_v, xqi_e, xql_e, xqv_e, forall_eq, true_and, and_true]
        refine ⟨fun z => absurd z (by omega), fun _ => ?_⟩
        refine p_charAt2 (by omega) ?_
        have cl := (xch_2 (rg m + 1 + i) (by omega)).2.2
        rw [xqi_i]
        simp (disch := omega) only [i32_lit, l64_lit, lc_eq, lc_ge, lc_le, lc_gt, lc_lt, jL_inj, jL_add, jL_sub, jL_mul, jL_neg, jL_and, jL_or, jL_xor, jL_mone, BitVec.xor_allOnes, nI_clamp, nI_ltI, nI_leI, nI_eq, nI_1, nI_add, nI_sub, nI_addm, nI_mul, vp_in_n, xi_pi, xi_pl, xl_pi, xl_pl, xb_pi, xb_pl, xqi_i, xql_l, xqv_v, xqi_e, xql_e, xqv_e, forall_eq, true_and, and_true, b2.2]
        refine ⟨fun y => ?_, fun y => ?_⟩
        · refine e59 i h1 (by omega) h3 (.inr ⟨by omega, fun e => y ?_⟩)
          rw [sb_n wi.1, e]
        · rw [sb_n wi.1] at y
          have y : chc 2 (rg m + 1 + i) = c (p + i) := (nI_eq (by omega) (by omega)).mp y
          have il : i < (rws (qn m)).length := by
            apply Classical.byContradiction
            intro ne
            rw [show i = (rws (qn m)).length by omega, g3] at y
            rw [show (rws (qn m)).length = i by omega] at y
            exact wi.2 y.symm
          refine ih (i + 1) (by omega) il (fun i' hi' => ?_)
          by_cases ei : i' = i
          · rw [ei, ← y]; exact (g4 i il).1
          · exact h3 i' (by omega)
    exact ⟨_, k3 (q - p) 0 (by omega) (by omega) (fun i' hi' => absurd hi' (by omega))⟩
end RSPL
