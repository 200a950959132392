section RRES
variable {B : Bk} {σ σ' : xS} {Q : xO → xS → Prop} {t J : Nat}
/-- all arguments of t are worked out -/
def nowA (B : Bk) (J : Nat) (σ : xS) (t : Nat) : Prop := ∀ i, i < bfi B (t + 1) - bfi B t → now B J σ (bar B (bfi B t + i))
theorem r_alike (h : RR B σ) (w : wfB B) (hS : bsz B ≤ 16) (ht : t < bma B) (hn : nowA B J σ t) (hs : ∀ i, i < bfi B (t + 1) - bfi B t → bso B (bar B (bfi B t + i)) = bso B (bar B (bfi B t))) (all : Bool)
    (k : ∀ r : Bool, (r = true ↔ ∀ i, i < bfi B (t + 1) - bfi B t → ∀ j, j < i → (ev B J (bar B (bfi B t + i)) = ev B J (bar B (bfi B t + j)) ↔ all = true)) → Q (.inl (some (.int (bI r)))) σ) : wp_VectorSolverModel_alike Q σ (nI t) (bI all) := by
  have hm := wf_ma w
  obtain ⟨f1, f2, f3⟩ := wf_fi w ht
  have bt : ∀ r : Bool, (bI r = nI 0 ∨ bI r = nI 1) := fun r => by cases r <;> decide
  have am : ∀ i, i < bfi B (t + 1) - bfi B t → bar B (bfi B t + i) < bma B := fun i hi => by have := wf_ar w ht (show bfi B t ≤ bfi B t + i by omega) (by omega); omega
  unfold wp_VectorSolverModel_alike
  have key := loop_i (σ := Bool) (fun n i r => w_VectorSolverModel_alike_5 Q n (nI t) (bI all) (bI r) (nI i) σ) (fun i r => (r = true → ∀ a, a < i → ∀ b, b < a → (ev B J (bar B (bfi B t + a)) = ev B J (bar B (bfi B t + b)) ↔ all = true)) ∧ (r = false → ∃ a, a < bfi B (t + 1) - bfi B t ∧ ∃ b, b < a ∧ ¬ (ev B J (bar B (bfi B t + a)) = ev B J (bar B (bfi B t + b)) ↔ all = true))) (bfi B (t + 1) - bfi B t) (fun n r hI => ?_) (fun n i r hi hI hs2 => ?_)
  · exact ⟨_, key (bfi B (t + 1) - bfi B t + 1) 0 true (by omega) (by omega) ⟨fun _ a ha => absurd ha (by omega), fun q => (by cases q)⟩⟩
  · unfold w_VectorSolverModel_alike_5
    simp (disch := omega) only [i32_lit, l64_lit, lc_eq, lc_ge, lc_le, lc_gt, lc_lt, jL_inj, jL_add, jL_sub, jL_mul, jL_neg, jL_and, jL_or, jL_xor, jL_mone, BitVec.xor_allOnes, nI_clamp, nI_ltI, nI_leI, nI_eq, nI_1, nI_add, nI_sub, nI_addm, nI_mul, vp_in_n, xi_pi, xi_pl, xl_pi, xl_pl, xb_pi, xb_pl, xqi_i, xql_l, xqv_v, xqi_e, xql_e, xqv_e, forall_eq, true_and, and_true, rr_ma h]
    refine ⟨fun _ => ⟨bt r, k r ⟨fun q => hI.1 q, fun q => ?_⟩⟩, fun z => absurd (Nat.le_refl _) z⟩
    cases r with
    | true => rfl
    | false =>
      obtain ⟨a, a1, b, b1, c⟩ := hI.2 rfl
      exact absurd (q a a1 b b1) c
  · unfold w_VectorSolverModel_alike_5
    simp (disch := omega) only [i32_lit, l64_lit, lc_eq, lc_ge, lc_le, lc_gt, lc_lt, jL_inj, jL_add, jL_sub, jL_mul, jL_neg, jL_and, jL_or, jL_xor, jL_mone, BitVec.xor_allOnes, nI_clamp, nI_ltI, nI_leI, nI_eq, nI_1, nI_add, nI_sub, nI_addm, nI_mul, vp_in_n, xi_pi, xi_pl, xl_pi, xl_pl, xb_pi, xb_pl, xqi_i, xql_l, xqv_v, xqi_e, xql_e, xqv_e, forall_eq, true_and, and_true, rr_ma h, bI_0]
    refine ⟨fun z => absurd z (by omega), fun _ => ⟨fun e => ⟨Or.inl e, k r ⟨fun q => (by rw [e] at q; cases q), fun q => ?_⟩⟩, fun e => ?_⟩⟩
    · obtain ⟨a, a1, b, b1, c⟩ := hI.2 e
      exact absurd (q a a1 b b1) c
    · have rt : r = true := by cases r with
        | true => rfl
        | false => exact absurd rfl e
      have key2 := loop_i (σ := Bool) (fun m j r2 => w_VectorSolverModel_alike_23 Q (w_VectorSolverModel_alike_5 Q n) m (nI t) (bI all) (bI r2) (nI i) (nI j) σ) (fun j r2 => (r2 = true → ∀ b, b < j → (ev B J (bar B (bfi B t + i)) = ev B J (bar B (bfi B t + b)) ↔ all = true)) ∧ (r2 = false → ∃ b, b < i ∧ ¬ (ev B J (bar B (bfi B t + i)) = ev B J (bar B (bfi B t + b)) ↔ all = true))) i (fun m r2 hO => ?_) (fun m j r2 hj hO hs3 => ?_)
      · rw [rt]
        exact ⟨_, key2 (i + 1) 0 true (by omega) (by omega) ⟨fun _ b hb => absurd hb (by omega), fun q => (by cases q)⟩⟩
      · unfold w_VectorSolverModel_alike_23
        simp (disch := omega) only [i32_lit, l64_lit, lc_eq, lc_ge, lc_le, lc_gt, lc_lt, jL_inj, jL_add, jL_sub, jL_mul, jL_neg, jL_and, jL_or, jL_xor, jL_mone, BitVec.xor_allOnes, nI_clamp, nI_ltI, nI_leI, nI_eq, nI_1, nI_add, nI_sub, nI_addm, nI_mul, vp_in_n, xi_pi, xi_pl, xl_pi, xl_pl, xb_pi, xb_pl, xqi_i, xql_l, xqv_v, xqi_e, xql_e, xqv_e, forall_eq, true_and, and_true]
        refine ⟨fun _ => hs2 r2 ⟨fun q a ha b hb => ?_, fun q => ?_⟩, fun z => absurd (Nat.le_refl _) z⟩
        · by_cases c : a = i
          · rw [c] at hb ⊢; exact hO.1 q b hb
          · exact hI.1 rt a (by omega) b hb
        · obtain ⟨b, b1, b2⟩ := hO.2 q
          exact ⟨i, hi, b, b1, b2⟩
      · unfold w_VectorSolverModel_alike_23
        simp (disch := omega) only [i32_lit, l64_lit, lc_eq, lc_ge, lc_le, lc_gt, lc_lt, jL_inj, jL_add, jL_sub, jL_mul, jL_neg, jL_and, jL_or, jL_xor, jL_mone, BitVec.xor_allOnes, nI_clamp, nI_ltI, nI_leI, nI_eq, nI_1, nI_add, nI_sub, nI_addm, nI_mul, vp_in_n, xi_pi, xi_pl, xl_pi, xl_pl, xb_pi, xb_pl, xqi_i, xql_l, xqv_v, xqi_e, xql_e, xqv_e, forall_eq, true_and, and_true, bI_0]
        refine ⟨fun z => absurd z (by omega), fun _ => ⟨fun e2 => hs2 r2 ⟨fun q => (by rw [e2] at q; cases q), fun q => ?_⟩, fun e2 => ?_⟩⟩
        · obtain ⟨b, b1, b2⟩ := hO.2 q
          exact ⟨i, hi, b, b1, b2⟩
        · have rt2 : r2 = true := by cases r2 with
            | true => rfl
            | false => exact absurd rfl e2
          refine r_of h w ht hi ?_
          rw [xqi_i]
          refine r_of h w ht (show j < bfi B (t + 1) - bfi B t by omega) ?_
          rw [xqi_i]
          refine r_areEqual h w hS (am i hi) (am j (by omega)) ((hs i hi).trans (hs j (by omega)).symm) (hn i hi) (hn j (by omega)) (fun r3 h3 => ?_)
          rw [xqi_i]
          have bie : (bI r3 = bI all) ↔ (ev B J (bar B (bfi B t + i)) = ev B J (bar B (bfi B t + j)) ↔ all = true) := by
            rw [← h3]
            cases r3 <;> cases all <;> decide
          refine ⟨fun c => hs3 false ⟨fun n => (by cases n), fun _ => ⟨j, hj, fun n => c (bie.mpr n)⟩⟩, fun c => hs3 true ⟨fun _ b hb => ?_, fun n => (by cases n)⟩⟩
          by_cases d : b = j
          · rw [d]; exact bie.mp c
          · exact hO.1 rt2 b (by omega)
theorem fop_cg {c W : Nat} {x x' y : BitVec 64} (hW : W ≤ 64) (h : x &&& bm W = x' &&& bm W) : fop c x y &&& bm W = fop c x' y &&& bm W := by
  have hb : ∀ i, i < W → x.getLsbD i = x'.getLsbD i := fun i hi => by
    have := congrArg (fun z => z.getLsbD i) h
    simp only [BitVec.getLsbD_and, bm_bit, decide_eq_true hi, decide_eq_true (show i < 64 by omega), Bool.and_true] at this
    exact this
  have cgb : ∀ u v : BitVec 64, cg W u v → u &&& bm W = v &&& bm W := fun u v q => by
    apply BitVec.eq_of_getLsbD_eq
    intro i hi
    rw [BitVec.getLsbD_and, BitVec.getLsbD_and, bm_bit]
    by_cases e : i < W
    · rw [cg_bits.mp q i e]
    · rw [decide_eq_false e]; simp
  unfold fop
  split
  · exact cgb _ _ (cg_bits.mpr fun i hi => by rw [BitVec.getLsbD_and, BitVec.getLsbD_and, hb i hi])
  · split
    · exact cgb _ _ (cg_bits.mpr fun i hi => by rw [BitVec.getLsbD_or, BitVec.getLsbD_or, hb i hi])
    · split
      · exact cgb _ _ (cg_bits.mpr fun i hi => by rw [BitVec.getLsbD_xor, BitVec.getLsbD_xor, hb i hi])
      · split
        · exact cgb _ _ (cg_add hW (cg_bits.mpr hb) rfl)
        · exact cgb _ _ (cg_mul hW (cg_bits.mpr hb) rfl)
theorem bul {s : Nat} (hs : s ≤ 64) : bm (min 64 (szs s)) = bm (if s % 128 = 0 then 1 else s % 128) := by
  rw [show s % 128 = s by omega]
  by_cases e : s = 0
  · rw [if_pos e]; unfold szs; rw [if_pos e]; rfl
  · rw [if_neg e, vec_sz (by omega) hs]
/-- two arguments or more, one after the other -/
theorem r_fold {c : Nat} (h : RR B σ) (w : wfB B) (hS : bsz B ≤ 16) (ht : t < bma B) (hn : nowA B J σ t) (hc : c = 14 ∨ c = 15 ∨ c = 16 ∨ (23 ≤ c ∧ c ≤ 35)) (n2 : 2 ≤ bfi B (t + 1) - bfi B t) (hc2 : 28 ≤ c → bfi B (t + 1) - bfi B t = 2) (hs : ∀ i, i < bfi B (t + 1) - bfi B t → bso B (bar B (bfi B t + i)) = bso B t) (hs2 : bso B t ≤ 64) (hs3 : 23 ≤ c → 1 ≤ bso B t)
    (k : ∀ r, r = (if c < 28 then foldA (fun i => ev B J (bar B (bfi B t + i))) c (bfi B (t + 1) - bfi B t - 1) else two c (ev B J (bar B (bfi B t))) (ev B J (bar B (bfi B t + 1))) (bso B t)) &&& bful B t → Q (.inl (some (.long (jL r)))) σ) : ∃ m, w_VectorSolverModel_result_170 Q m (nI t) (nI (c - 11)) (nI (bso B t % 128)) (jL (ev B J (bar B (bfi B t)))) 1 σ := by
  have hm := wf_ma w
  obtain ⟨f1, f2, f3⟩ := wf_fi w ht
  have sm : bso B t % 128 = bso B t := by omega
  have key := loop_i (σ := BitVec 64) (fun n i r => w_VectorSolverModel_result_170 Q n (nI t) (nI (c - 11)) (nI (bso B t % 128)) (jL r) (nI i) σ) (fun i r => 1 ≤ i ∧ (i = 1 → r = ev B J (bar B (bfi B t))) ∧ (2 ≤ i → r = (if c < 28 then foldA (fun i => ev B J (bar B (bfi B t + i))) c (i - 1) else two c (ev B J (bar B (bfi B t))) (ev B J (bar B (bfi B t + 1))) (bso B t)) &&& bful B t)) (bfi B (t + 1) - bfi B t) (fun n r hI => ?_) (fun n i r hi hI hs4 => ?_)
  · exact ⟨_, key (bfi B (t + 1) - bfi B t + 1) 1 _ (by omega) (by omega) ⟨Nat.le_refl _, fun _ => rfl, fun q => absurd q (by omega)⟩⟩
  · unfold w_VectorSolverModel_result_170
    simp (disch := omega) only [i32_lit, l64_lit, lc_eq, lc_ge, lc_le, lc_gt, lc_lt, jL_inj, jL_add, jL_sub, jL_mul, jL_neg, jL_and, jL_or, jL_xor, jL_mone, BitVec.xor_allOnes, nI_clamp, nI_ltI, nI_leI, nI_eq, nI_1, nI_add, nI_sub, nI_addm, nI_mul, vp_in_n, xi_pi, xi_pl, xl_pi, xl_pl, xb_pi, xb_pl, xqi_i, xql_l, xqv_v, xqi_e, xql_e, xqv_e, forall_eq, true_and, and_true, rr_ma h]
    exact ⟨fun _ => k r (hI.2.2 n2), fun z => absurd (Nat.le_refl _) z⟩
  · unfold w_VectorSolverModel_result_170
    simp (disch := omega) only [i32_lit, l64_lit, lc_eq, lc_ge, lc_le, lc_gt, lc_lt, jL_inj, jL_add, jL_sub, jL_mul, jL_neg, jL_and, jL_or, jL_xor, jL_mone, BitVec.xor_allOnes, nI_clamp, nI_ltI, nI_leI, nI_eq, nI_1, nI_add, nI_sub, nI_addm, nI_mul, vp_in_n, xi_pi, xi_pl, xl_pi, xl_pl, xb_pi, xb_pl, xqi_i, xql_l, xqv_v, xqi_e, xql_e, xqv_e, forall_eq, true_and, and_true, rr_ma h]
    refine ⟨fun z => absurd z (by omega), fun _ => ?_⟩
    refine r_valueOf h w ht hi (by rw [hs i hi]; exact hs2) (hn i hi) ?_
    rw [xql_l]
    refine r_both (by omega) (fun q => by have := hs3 (by omega); omega) (by omega) ?_
    rw [xql_l]
    refine r_mask (by omega) ?_
    rw [xql_l]
    simp (disch := omega) only [i32_lit, l64_lit, lc_eq, lc_ge, lc_le, lc_gt, lc_lt, jL_inj, jL_add, jL_sub, jL_mul, jL_neg, jL_and, jL_or, jL_xor, jL_mone, BitVec.xor_allOnes, nI_clamp, nI_ltI, nI_leI, nI_eq, nI_1, nI_add, nI_sub, nI_addm, nI_mul, vp_in_n, xi_pi, xi_pl, xl_pi, xl_pl, xb_pi, xb_pl, xqi_i, xql_l, xqv_v, xqi_e, xql_e, xqv_e, forall_eq, true_and, and_true]
    rw [show c - 11 + 11 = c by omega, ← bul hs2]
    refine hs4 _ ⟨by omega, fun q => absurd q (by omega), fun _ => ?_⟩
    show _ &&& bful B t = _ &&& bful B t
    unfold bthA
    by_cases e1 : i = 1
    · rw [hI.2.1 e1, e1, sm]
      by_cases c28 : c < 28
      · rw [if_pos c28, if_pos c28]; rfl
      · rw [if_neg c28, if_neg c28]
    · have c28 : c < 28 := by
        apply Classical.byContradiction
        intro q
        have := hc2 (by omega)
        omega
      have := hI.2.2 (by omega)
      rw [if_pos c28] at this
      rw [if_pos c28, if_pos c28]
      obtain ⟨m, hm2⟩ : ∃ m, i = m + 1 := ⟨i - 1, by omega⟩
      rw [hm2] at this ⊢
      show fop c r _ &&& bful B t = fop c (foldA _ c m) _ &&& bful B t
      unfold bful
      refine fop_cg (Nat.min_le_left _ _) ?_
      rw [this]
      exact and_F _ _
theorem r_impl (h : RR B σ) (w : wfB B) (ht : t < bma B) (hn : nowA B J σ t) (z : bop B t = 17)
    (k : ∀ r, r = ev B J t → Q (.inl (some (.long (jL r)))) σ) : ∃ m, w_VectorSolverModel_result_86 Q m (nI t) (jL (ev B J (bar B (bfi B t + (bfi B (t + 1) - bfi B t - 1))))) (nI (bfi B (t + 1) - bfi B t) - 2) σ := by
  have hm := wf_ma w
  obtain ⟨f1, f2, f3⟩ := wf_fi w ht
  have y := ty_17 (wf_ty w ht) z
  have v01 : ∀ i, i < bfi B (t + 1) - bfi B t → ev B J (bar B (bfi B t + i)) = 0#64 ∨ ev B J (bar B (bfi B t + i)) = 1#64 := fun i hi => by
    have := ev_arg (J := J) w ht (show bfi B t ≤ bfi B t + i by omega) (by omega)
    rw [bful_0 (y.2.1 i hi)] at this
    have l := sub_nat (n := 1) (by decide) this
    have h4 : (ev B J (bar B (bfi B t + i))).toNat = 0 ∨ (ev B J (bar B (bfi B t + i))).toNat = 1 := by omega
    exact h4.imp (fun q => BitVec.eq_of_toNat_eq q) (fun q => BitVec.eq_of_toNat_eq q)
  have vt : ev B J t = implA (fun i => ev B J (bar B (bfi B t + (bfi B (t + 1) - bfi B t - 1 - i)))) (bfi B (t + 1) - bfi B t - 1) &&& 1#64 := by
    rw [ev_ap w ht (by omega) (by omega), ap_17 z, bful_0 y.2.2]
    congr 1
    exact implA_cg _ (fun i hi => evL_ar w ht (by omega))
  have e0 : nI (bfi B (t + 1) - bfi B t) - 2 = nI (bfi B (t + 1) - bfi B t - 1) + -nI 1 := by
    rw [show (2 : Int32) = nI 2 from rfl, nI_sub (by omega), nI_addm (by omega)]
    rfl
  rw [e0]
  have key := loop_m (σ := Nat × BitVec 64) (fun n s => w_VectorSolverModel_result_86 Q n (nI t) (jL s.2) (nI s.1 + -nI 1) σ) (fun s => s.1 ≤ bfi B (t + 1) - bfi B t - 1 ∧ s.2 = implA (fun i => ev B J (bar B (bfi B t + (bfi B (t + 1) - bfi B t - 1 - i)))) (bfi B (t + 1) - bfi B t - 1 - s.1) &&& 1#64) (fun s => s.1) (fun n s hI hs => ?_) (bfi B (t + 1) - bfi B t - 1, ev B J (bar B (bfi B t + (bfi B (t + 1) - bfi B t - 1)))) ⟨Nat.le_refl _, ?_⟩
  · exact key
  · obtain ⟨h0, h1⟩ := hI
    show w_VectorSolverModel_result_86 Q (n + 1) (nI t) (jL s.2) (nI s.1 + -nI 1) σ
    unfold w_VectorSolverModel_result_86
    simp (disch := omega) only [i32_lit, l64_lit, lc_eq, lc_ge, lc_le, lc_gt, lc_lt, jL_inj, jL_add, jL_sub, jL_mul, jL_neg, jL_and, jL_or, jL_xor, jL_mone, BitVec.xor_allOnes, nI_clamp, nI_ltI, nI_leI, nI_eq, nI_1, nI_add, nI_sub, nI_addm, nI_mul, vp_in_n, xi_pi, xi_pl, xl_pi, xl_pl, xb_pi, xb_pl, xqi_i, xql_l, xqv_v, xqi_e, xql_e, xqv_e, forall_eq, true_and, and_true, nI_m1lt]
    refine ⟨fun q => k _ ?_, fun q => ?_⟩
    · rw [h1, vt, show s.1 = 0 by omega]; rfl
    · rw [nI_addm (show 1 ≤ s.1 by omega)]
      refine r_valueOf h w ht (show s.1 - 1 < _ by omega) (by rw [y.2.1 _ (by omega)]; omega) (hn _ (by omega)) ?_
      rw [xql_l]
      simp (disch := omega) only [i32_lit, l64_lit, lc_eq, lc_ge, lc_le, lc_gt, lc_lt, jL_inj, jL_add, jL_sub, jL_mul, jL_neg, jL_and, jL_or, jL_xor, jL_mone, BitVec.xor_allOnes, nI_clamp, nI_ltI, nI_leI, nI_eq, nI_1, nI_add, nI_sub, nI_addm, nI_mul, vp_in_n, xi_pi, xi_pl, xl_pi, xl_pl, xb_pi, xb_pl, xqi_i, xql_l, xqv_v, xqi_e, xql_e, xqv_e, forall_eq, true_and, and_true]
      have st : implA (fun i => ev B J (bar B (bfi B t + (bfi B (t + 1) - bfi B t - 1 - i)))) (bfi B (t + 1) - bfi B t - 1 - (s.1 - 1)) = implA (fun i => ev B J (bar B (bfi B t + (bfi B (t + 1) - bfi B t - 1 - i)))) (bfi B (t + 1) - bfi B t - 1 - s.1) ||| ~~~ ev B J (bar B (bfi B t + (s.1 - 1))) := by
        rw [show bfi B (t + 1) - bfi B t - 1 - (s.1 - 1) = (bfi B (t + 1) - bfi B t - 1 - s.1) + 1 by omega, implA]
        rw [show bfi B (t + 1) - bfi B t - 1 - (bfi B (t + 1) - bfi B t - 1 - s.1 + 1) = s.1 - 1 by omega]
      refine ⟨fun e => hs (s.1 - 1, 1#64) ⟨by show s.1 - 1 ≤ _; omega, ?_⟩ (by show s.1 - 1 < s.1; omega), fun e => hs (s.1 - 1, s.2) ⟨by show s.1 - 1 ≤ _; omega, ?_⟩ (by show s.1 - 1 < s.1; omega)⟩
      · show 1#64 = implA _ (bfi B (t + 1) - bfi B t - 1 - (s.1 - 1)) &&& 1#64
        rw [st, (v01 (s.1 - 1) (by omega)).resolve_right e]
        have : ~~~ (0#64) = BitVec.allOnes 64 := by decide
        rw [this, BitVec.or_allOnes, BitVec.allOnes_and]
      · show s.2 = implA _ (bfi B (t + 1) - bfi B t - 1 - (s.1 - 1)) &&& 1#64
        rw [st, e, h1]
        apply BitVec.eq_of_getLsbD_eq
        intro j hj
        simp only [BitVec.getLsbD_and, BitVec.getLsbD_or, BitVec.getLsbD_not, hj, decide_true, Bool.true_and]
        cases (1#64).getLsbD j <;> simp
  · show ev B J (bar B (bfi B t + (bfi B (t + 1) - bfi B t - 1))) = implA _ (bfi B (t + 1) - bfi B t - 1 - (bfi B (t + 1) - bfi B t - 1)) &&& 1#64
    rw [Nat.sub_self]
    show _ = ev B J (bar B (bfi B t + (bfi B (t + 1) - bfi B t - 1 - 0))) &&& 1#64
    rw [Nat.sub_zero]
    rcases v01 (bfi B (t + 1) - bfi B t - 1) (by omega) with e | e
    · rw [e]; decide
    · rw [e]; decide
theorem r_concat (h : RR B σ) (w : wfB B) (ht : t < bma B) (hn : nowA B J σ t) (z : bop B t = 44)
    (k : ∀ r, r &&& bful B t = ev B J t → Q (.inl (some (.long (jL r)))) σ) : ∃ m, w_VectorSolverModel_result_252 Q m (nI t) (jL (ev B J (bar B (bfi B t)))) 1 σ := by
  have hm := wf_ma w
  obtain ⟨f1, f2, f3⟩ := wf_fi w ht
  have y := ty_44 (wf_ty w ht) z
  have am : ∀ i, i < bfi B (t + 1) - bfi B t → bar B (bfi B t + i) < bma B := fun i hi => by have := wf_ar w ht (show bfi B t ≤ bfi B t + i by omega) (by omega); omega
  have key := loop_i (σ := BitVec 64) (fun n i r => w_VectorSolverModel_result_252 Q n (nI t) (jL r) (nI i) σ) (fun i r => 1 ≤ i ∧ r = catA (fun i => ev B J (bar B (bfi B t + i))) (fun i => bso B (bar B (bfi B t + i))) i) (bfi B (t + 1) - bfi B t) (fun n r hI => ?_) (fun n i r hi hI hs4 => ?_)
  · refine ⟨_, key (bfi B (t + 1) - bfi B t + 1) 1 _ (by omega) (by omega) ⟨Nat.le_refl _, ?_⟩⟩
    show ev B J (bar B (bfi B t)) = (0#64 <<< _) ||| ev B J (bar B (bfi B t + 0))
    rw [BitVec.zero_shiftLeft, BitVec.zero_or]
    rfl
  · unfold w_VectorSolverModel_result_252
    simp (disch := omega) only [i32_lit, l64_lit, lc_eq, lc_ge, lc_le, lc_gt, lc_lt, jL_inj, jL_add, jL_sub, jL_mul, jL_neg, jL_and, jL_or, jL_xor, jL_mone, BitVec.xor_allOnes, nI_clamp, nI_ltI, nI_leI, nI_eq, nI_1, nI_add, nI_sub, nI_addm, nI_mul, vp_in_n, xi_pi, xi_pl, xl_pi, xl_pl, xb_pi, xb_pl, xqi_i, xql_l, xqv_v, xqi_e, xql_e, xqv_e, forall_eq, true_and, and_true, rr_ma h]
    refine ⟨fun _ => k r ?_, fun q => absurd (Nat.le_refl _) q⟩
    rw [ev_ap w ht (by omega) (by omega), ap_44 z, hI.2]
    congr 1
    exact catA_cg _ (fun i hi => (evL_ar w ht hi).symm)
  · unfold w_VectorSolverModel_result_252
    simp (disch := omega) only [i32_lit, l64_lit, lc_eq, lc_ge, lc_le, lc_gt, lc_lt, jL_inj, jL_add, jL_sub, jL_mul, jL_neg, jL_and, jL_or, jL_xor, jL_mone, BitVec.xor_allOnes, nI_clamp, nI_ltI, nI_leI, nI_eq, nI_1, nI_add, nI_sub, nI_addm, nI_mul, vp_in_n, xi_pi, xi_pl, xl_pi, xl_pl, xb_pi, xb_pl, xqi_i, xql_l, xqv_v, xqi_e, xql_e, xqv_e, forall_eq, true_and, and_true, rr_ma h]
    refine ⟨fun q => absurd q (by omega), fun _ => ?_⟩
    refine r_of h w ht hi ?_
    rw [xqi_i]
    have yi := y.2.1 i hi
    have ami := am i hi
    simp (disch := omega) only [i32_lit, l64_lit, lc_eq, lc_ge, lc_le, lc_gt, lc_lt, jL_inj, jL_add, jL_sub, jL_mul, jL_neg, jL_and, jL_or, jL_xor, jL_mone, BitVec.xor_allOnes, nI_clamp, nI_ltI, nI_leI, nI_eq, nI_1, nI_add, nI_sub, nI_addm, nI_mul, vp_in_n, xi_pi, xi_pl, xl_pi, xl_pl, xb_pi, xb_pl, xqi_i, xql_l, xqv_v, xqi_e, xql_e, xqv_e, forall_eq, true_and, and_true, rr_wi h]
    refine r_valueOf h w ht hi (by omega) (hn i hi) ?_
    rw [xql_l]
    rw [show bso B (bar B (bfi B t + i)) % 128 = bso B (bar B (bfi B t + i)) by omega]
    rw [jL_shl _ (by omega), jL_or]
    refine hs4 _ ⟨by omega, ?_⟩
    rw [hI.2]
    rfl
end RRES
