/-! a goal that is false -/
def atT (B : Bk) (σ : xS) (n : Nat) (E S T : Nat → Nat) : Prop := ∀ j, j < n → xi σ 35 j = nI (T j) ∧ T j < 2 ^ bsz B ∧ ∀ i, E j ≤ i → i < E (j + 1) → bop B (S i) ≠ 47 → xl σ 41 (S i) = jL (ev B (T j) (S i))
theorem gSt.keep {σ σ' : xS} {n : Nat} {G : Nat → Nat} {I L : List Nat} (h : gSt σ n G) (o : oN I L σ σ') (h1 : 30 ∉ I) (h2 : 32 ∉ I) : gSt σ' n G := ⟨(o.1 30 7 h1).trans h.1, fun j hj => (o.1 32 j h2).trans (h.2 j hj)⟩
theorem stS.keep {B : Bk} {σ σ' : xS} {n : Nat} {G E S : Nat → Nat} {I L : List Nat} (h : stS B σ n G E S) (o : oN I L σ σ') (h1 : 30 ∉ I) (h2 : 32 ∉ I) (h3 : 33 ∉ I) (h4 : 34 ∉ I) : stS B σ' n G E S := by
  obtain ⟨a, b, c, L', d⟩ := h
  exact ⟨a.keep o h1 h2, fun j hj => ⟨(o.1 34 j h4).trans (b j hj).1, (b j hj).2⟩, c, L', d.1, fun i hi => ⟨(o.1 33 i h3).trans (d.2.1 i hi).1, (d.2.1 i hi).2⟩, d.2.2⟩
section FALSE
variable {B : Bk} {σ : xS} {Q : xO → xS → Prop} {G E S T D : Nat → Nat} {J n0 : Nat}
theorem E_le (h : ∀ j, j < n0 → E j ≤ E (j + 1)) : ∀ d j, j + d = n0 → E j ≤ E n0
  | 0, j, e => by rw [show j = n0 by omega]; exact Nat.le_refl _
  | d + 1, j, e => Nat.le_trans (h j (by omega)) (E_le h d (j + 1) (by omega))
theorem E_mono (h : ∀ j, j < n0 → E j ≤ E (j + 1)) : ∀ d j, j + d ≤ n0 → E j ≤ E (j + d)
  | 0, j, e => Nat.le_refl _
  | d + 1, j, e => Nat.le_trans (E_mono h d j (by omega)) (h (j + d) (by omega))
theorem s_false (h : RC B σ) (w : wfB B) (hS : bsz B ≤ 16) (hs : xi σ 30 15 = nI (bsz B)) (hJ : J < 2 ^ bsz B) (hD : ∀ t, t < bma B → xi σ 31 t = nI (D t) ∧ depOK B D t) (hn : n0 ≤ 501) (st : stS B σ n0 G E S) (hT : atT B σ n0 E S T)
    (k0 : ∀ σ' T', oN [35] [41] σ σ' → atT B σ' n0 E S T' → (∀ j, j < n0 → ev B J (G j) ≠ 0#64) → Q (.inl (some (.int (-1)))) σ')
    (k1 : ∀ σ' T' j, oN [35] [41] σ σ' → atT B σ' n0 E S T' → j < n0 → ev B J (G j) = 0#64 → (∃ M, isCone B (G j) M ∧ ∀ a, a < bma B → (M a = true ∨ bop B a = 47) → xl σ' 41 a = jL (ev B J a)) → Q (.inl (some (.int (nI (G j))))) σ') : wp_Search_falseGoal Q σ (nI J) := by
  have hm := wf_ma w
  have p16 : 2 ^ bsz B ≤ 65536 := Nat.pow_le_pow_right (n := 2) (by decide) hS
  have iI : ∀ a ∈ [35], 23 ≤ a ∨ a ≤ 4 := by decide
  have iL : ∀ a ∈ [41], 14 ≤ a := by decide
  obtain ⟨st1, st2, st3, Ls, st4⟩ := st
  have Em : ∀ j, j < n0 → E j ≤ E (j + 1) := fun j hj => (st2 j hj).2.1
  have En : ∀ j, j ≤ n0 → E j ≤ E n0 := fun j hj => E_le Em (n0 - j) j (by omega)
  have En2 : E n0 ≤ 2000 := by have := cnt_le Ls (bma B); have := st4.1; omega
  unfold wp_Search_falseGoal
  rw [hs]
  refine e_takeThings_40 h w hS (by omega) (fun σ1 o1 t1 t2 => ?_)
  rw [xqv_v]
  have key := loop_i (σ := xS) (fun n j s => w_Search_falseGoal_16 Q n (nI J) (nI (E j)) (nI j) s) (fun j s => oN [35] [41] σ s ∧ (∀ i, i < bth B → xl s 41 (btt B i) = jL (ev B J (btt B i))) ∧ (∀ i, i < E j → xl s 41 (S i) = jL (ev B J (S i))) ∧ (∀ b, b < j → xi s 35 b = nI J ∧ ev B J (G b) ≠ 0#64) ∧ ∀ b, j ≤ b → b < n0 → xi s 35 b = nI (T b) ∧ ∀ i, E b ≤ i → i < E (b + 1) → bop B (S i) ≠ 47 → xl s 41 (S i) = jL (ev B (T b) (S i))) n0 (fun n s hI => ?_) (fun n j s hj hI hs2 => ?_)
  · have := key (n0 + 1) 0 σ1 (by omega) (by omega) ⟨o1.n.up (by decide) (by decide), t1, fun i hi => ?_, fun b hb => absurd hb (by omega), fun b _ hb => ⟨(o1.1 35 b).trans (hT b hb).1, fun i i1 i2 i3 => ?_⟩⟩
    · rw [st3] at this
      exact ⟨_, this⟩
    · rw [st3] at hi; omega
    · rw [t2 (S i) (fun q hq e => i3 (by rw [e]; exact (wf_th w hq).2.1))]
      exact (hT b hb).2.2 i i1 i2 i3
  · obtain ⟨a1, a2, a3, a4, a5⟩ := hI
    have gs := st1.keep a1 (by decide) (by decide)
    unfold w_Search_falseGoal_16
    simp (disch := omega) only [i32_lit, l64_lit, lc_eq, lc_ge, lc_le, lc_gt, lc_lt, jL_inj, jL_add, jL_sub, jL_mul, jL_neg, jL_and, jL_or, jL_xor, jL_mone, BitVec.xor_allOnes, nI_clamp, nI_ltI, nI_leI, nI_eq, nI_1, nI_add, nI_sub, nI_addm, nI_mul, vp_in_n, xi_pi, xi_pl, xl_pi, xl_pl, xb_pi, xb_pl, xqi_i, xql_l, xqv_v, xqi_e, xql_e, xqv_e, forall_eq, true_and, and_true, gs.1]
    refine ⟨fun _ => k0 s (fun _ => J) a1 (fun j hj => ⟨(a4 j hj).1, hJ, fun i i1 i2 _ => a3 i (by have := En (j + 1) (by omega); omega)⟩) (fun j hj => (a4 j hj).2), fun z => absurd (Nat.le_refl _) z⟩
  · obtain ⟨a1, a2, a3, a4, a5⟩ := hI
    have gs := st1.keep a1 (by decide) (by decide)
    have Tj := (hT j hj).2.1
    have a5j := a5 j (Nat.le_refl _) hj
    have Ej := En (j + 1) (by omega)
    have sj := st2 j hj
    unfold w_Search_falseGoal_16
    simp (disch := omega) only [i32_lit, l64_lit, lc_eq, lc_ge, lc_le, lc_gt, lc_lt, jL_inj, jL_add, jL_sub, jL_mul, jL_neg, jL_and, jL_or, jL_xor, jL_mone, BitVec.xor_allOnes, nI_clamp, nI_ltI, nI_leI, nI_eq, nI_1, nI_add, nI_sub, nI_addm, nI_mul, vp_in_n, xi_pi, xi_pl, xl_pi, xl_pl, xb_pi, xb_pl, xqi_i, xql_l, xqv_v, xqi_e, xql_e, xqv_e, forall_eq, true_and, and_true, gs.1, a5j.1, nI_xor]
    refine ⟨fun z => absurd z (by omega), fun _ => ?_⟩
    have oP := (oN.pi s 35 j (nI J))
    have key2 := loop_i (σ := xS) (fun m i s2 => w_Search_falseGoal_44 Q (w_Search_falseGoal_16 Q n) m (nI J) (nI j) (nI (J ^^^ T j)) (nI i) s2) (fun i s2 => E j ≤ i ∧ oN [35] [41] σ s2 ∧ (∀ i, i < bth B → xl s2 41 (btt B i) = jL (ev B J (btt B i))) ∧ (∀ b, b < i → xl s2 41 (S b) = jL (ev B J (S b))) ∧ (∀ b, i ≤ b → b < E (j + 1) → bop B (S b) ≠ 47 → xl s2 41 (S b) = jL (ev B (T j) (S b))) ∧ (∀ b, b ≤ j → xi s2 35 b = nI J) ∧ ∀ b, j < b → b < n0 → xi s2 35 b = nI (T b) ∧ ∀ i, E b ≤ i → i < E (b + 1) → bop B (S i) ≠ 47 → xl s2 41 (S i) = jL (ev B (T b) (S i))) (E (j + 1)) (fun m s2 hO => ?_) (fun m i s2 hi hO hs3 => ?_)
    · refine ⟨_, key2 (E (j + 1) - E j + 1) (E j) (xpi s 35 j (nI J)) (by have := sj.2.1; omega) (by omega) ⟨Nat.le_refl _, a1.trans (oP.up (by decide) (by decide)), a2, a3, fun b b1 b2 b3 => a5j.2 b b1 b2 b3, fun b hb => ?_, fun b b1 b2 => ⟨?_, fun i i1 i2 i3 => (a5 b (by omega) b2).2 i i1 i2 i3⟩⟩⟩
      · rw [xi_pi]
        by_cases e : b = j
        · rw [if_pos ⟨rfl, e⟩]
        · rw [if_neg (fun z => e z.2)]; exact (a4 b (by omega)).1
      · rw [xi_pi, if_neg (by omega)]; exact (a5 b (by omega) b2).1
    · obtain ⟨c0, c1, c2, c3, c4, c5, c6⟩ := hO
      have gs2 := st1.keep c1 (by decide) (by decide)
      have e34 := (c1.1 34 j (by decide)).trans sj.1
      have gl := sj.2.2.1
      obtain ⟨M, cM, lM⟩ := sj.2.2.2.2
      have wg : xl s2 41 (G j) = jL (ev B J (G j)) := by
        obtain ⟨i, i1, i2⟩ := lM _ cM.1
        rw [← i2]; exact c3 i i1
      unfold w_Search_falseGoal_44
      simp (disch := omega) only [i32_lit, l64_lit, lc_eq, lc_ge, lc_le, lc_gt, lc_lt, jL_inj, jL_add, jL_sub, jL_mul, jL_neg, jL_and, jL_or, jL_xor, jL_mone, BitVec.xor_allOnes, nI_clamp, nI_ltI, nI_leI, nI_eq, nI_1, nI_add, nI_sub, nI_addm, nI_mul, vp_in_n, xi_pi, xi_pl, xl_pi, xl_pl, xb_pi, xb_pl, xqi_i, xql_l, xqv_v, xqi_e, xql_e, xqv_e, forall_eq, true_and, and_true, e34, gs2.2 j hj, wg]
      refine ⟨fun _ => ⟨fun e => ?_, fun e => ?_⟩, fun z => absurd (Nat.le_refl _) z⟩
      · refine hs2 s2 ⟨c1, c2, c3, fun b hb => ⟨c5 b (by omega), ?_⟩, fun b b1 b2 => c6 b (by omega) b2⟩
        by_cases e2 : b = j
        · rw [e2]; exact e
        · exact (a4 b (by omega)).2
      · refine k1 s2 (fun b => if b ≤ j then J else T b) j c1 (fun b hb => ?_) hj e ⟨M, cM, fun a ha q => ?_⟩
        · show xi s2 35 b = nI (if b ≤ j then J else T b) ∧ (if b ≤ j then J else T b) < 2 ^ bsz B ∧ ∀ i, E b ≤ i → i < E (b + 1) → bop B (S i) ≠ 47 → xl s2 41 (S i) = jL (ev B (if b ≤ j then J else T b) (S i))
          by_cases e2 : b ≤ j
          · rw [if_pos e2]
            refine ⟨c5 b e2, hJ, fun i i1 i2 _ => c3 i ?_⟩
            have := E_mono Em (j - b) (b + 1) (by omega)
            rw [show b + 1 + (j - b) = j + 1 by omega] at this
            omega
          · rw [if_neg e2]
            exact ⟨(c6 b (by omega) hb).1, (hT b hb).2.1, (c6 b (by omega) hb).2⟩
        · rcases q with q | q
          · obtain ⟨i, i1, i2⟩ := lM a q
            rw [← i2]; exact c3 i i1
          · obtain ⟨y1, y2⟩ := th_of w ha q
            rw [← y2]; exact c2 _ y1
    · obtain ⟨c0, c1, c2, c3, c4, c5, c6⟩ := hO
      have r2 := c1.rc iI iL h
      have e34 := (c1.1 34 j (by decide)).trans sj.1
      have si := st4.2.1 i (by omega)
      have e33 := (c1.1 33 i (by decide)).trans si.1
      have e31 := (c1.1 31 (S i) (by decide)).trans (hD (S i) si.2.1).1
      have dl := (hD (S i) si.2.1).2
      have xl16 : J ^^^ T j < 2 ^ bsz B := Nat.xor_lt_two_pow hJ Tj
      have dl16 := dl.1
      have al : D (S i) &&& (J ^^^ T j) < 2 ^ bsz B := Nat.and_lt_two_pow _ xl16
      unfold w_Search_falseGoal_44
      simp (disch := omega) only [i32_lit, l64_lit, lc_eq, lc_ge, lc_le, lc_gt, lc_lt, jL_inj, jL_add, jL_sub, jL_mul, jL_neg, jL_and, jL_or, jL_xor, jL_mone, BitVec.xor_allOnes, nI_clamp, nI_ltI, nI_leI, nI_eq, nI_1, nI_add, nI_sub, nI_addm, nI_mul, vp_in_n, xi_pi, xi_pl, xl_pi, xl_pl, xb_pi, xb_pl, xqi_i, xql_l, xqv_v, xqi_e, xql_e, xqv_e, forall_eq, true_and, and_true, e34, e33, e31, nI_and]
      refine ⟨fun z => absurd z (by omega), fun _ => ⟨fun e => ?_, fun e => ?_⟩⟩
      · refine hs3 s2 ⟨by omega, c1, c2, fun b hb => ?_, fun b b1 b2 b3 => c4 b (by omega) b2 b3, c5, c6⟩
        by_cases e2 : b = i
        · rw [e2]
          by_cases h7 : bop B (S i) = 47
          · obtain ⟨y1, y2⟩ := th_of w si.2.1 h7
            rw [← y2]; exact c2 _ y1
          · rw [c4 i (Nat.le_refl _) hi h7]
            congr 1
            refine dl.2 _ _ (fun m hm2 => ?_)
            have := congrArg (fun x => x.testBit m) e
            simp only [Nat.testBit_and, Nat.testBit_xor, hm2, Bool.true_and, Nat.zero_testBit] at this
            revert this
            cases J.testBit m <;> cases (T j).testBit m <;> simp
        · exact c3 b (by omega)
      · refine e_workOut_40 (S := bsz B) (J := J) (v := evL B J (S i)) r2 w si.2.1 (fun p p1 p2 => ?_) (ev_vbd w si.2.1) hS (fun h7 => ?_) (fun σ6 x1 x2 x3 x4 => ?_)
        · have lt2 := wf_ar w si.2.1 p1 p2
          rw [evL_lt B J lt2]
          by_cases h7 : bop B (bar B p) = 47
          · obtain ⟨y1, y2⟩ := th_of w (by omega) h7
            rw [← y2]; exact c2 _ y1
          · obtain ⟨i', i1, i2⟩ := si.2.2.2 (bar B p) ⟨h7, p, p1, p2, rfl⟩
            rw [← i2]; exact c3 i' i1
        · obtain ⟨y1, y2⟩ := th_of w si.2.1 h7
          rw [← ev_eq]
          have := c2 _ y1
          rw [y2] at this
          exact this
        · rw [xqv_v]
          rw [← ev_eq] at x4
          have n41 : ∀ a, a ≠ S i → xl σ6 41 a = xl s2 41 a := fun a ha => x2 41 a (Or.inr ha)
          have o6 : oN [35] [41] s2 σ6 := ⟨fun a b _ => x1 a b, fun a b q => x2 a b (Or.inl (fun e => q (by rw [e]; decide))), x3⟩
          have keep41 : ∀ a, xl s2 41 a = jL (ev B J a) → xl σ6 41 a = jL (ev B J a) := fun a ha => by
            by_cases e : a = S i
            · rw [e]; exact x4
            · rw [n41 a e]; exact ha
          refine hs3 σ6 ⟨by omega, c1.trans o6, fun i hi => keep41 _ (c2 i hi), fun b hb => ?_, fun b b1 b2 b3 => ?_, fun b hb => (x1 35 b).trans (c5 b hb), fun b b1 b2 => ⟨(x1 35 b).trans (c6 b b1 b2).1, fun p p1 p2 p3 => ?_⟩⟩
          · by_cases e2 : b = i
            · rw [e2]; exact x4
            · exact keep41 _ (c3 b (by omega))
          · rw [n41 _ (fun q => by have := st4.2.2.1 b i (by omega) (by omega) q; omega)]
            exact c4 b (by omega) b2 b3
          · have pn := En (b + 1) (by omega)
            have pj := E_mono Em (b - (j + 1)) (j + 1) (by omega)
            rw [show j + 1 + (b - (j + 1)) = b by omega] at pj
            rw [n41 _ (fun q => by have := st4.2.2.1 p i (by omega) (by omega) q; omega)]
            exact (c6 b b1 b2).2 p p1 p2 p3
end FALSE
