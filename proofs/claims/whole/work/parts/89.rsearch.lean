theorem narB_1 : vp_nar .boolean (nI 1) = nI 1 := by decide
theorem narB_0 : vp_nar .boolean (nI 0) = nI 0 := by decide
/-- what the reference's search may change -/
def onlyS (σ σ' : xS) : Prop := (∀ a b, a ≠ 82 → a ≠ 83 → ¬ (a = 50 ∧ b = 52) → xi σ' a b = xi σ a b) ∧ (∀ a b, a ≠ 81 → ¬ (a = 50 ∧ b = 51) → xl σ' a b = xl σ a b) ∧ xb σ' = xb σ
theorem onlyS.refl (σ : xS) : onlyS σ σ := ⟨fun _ _ _ _ _ => rfl, fun _ _ _ _ => rfl, rfl⟩
theorem onlyS.trans {σ σ' σ2 : xS} (h : onlyS σ σ') (h2 : onlyS σ' σ2) : onlyS σ σ2 := ⟨fun a b q1 q2 q3 => (h2.1 a b q1 q2 q3).trans (h.1 a b q1 q2 q3), fun a b q1 q2 => (h2.2.1 a b q1 q2).trans (h.2.1 a b q1 q2), h2.2.2.trans h.2.2⟩
theorem oN.toS {σ σ' : xS} (h : oN [82, 83] [81] σ σ') : onlyS σ σ' := ⟨fun a b q1 q2 _ => h.1 a b (by simp [q1, q2]), fun a b q1 _ => h.2.1 a b (by simp [q1]), h.2.2⟩
theorem bv_pow (S : Nat) : (1#64 <<< S) = BitVec.ofNat 64 (2 ^ S) := by
  apply BitVec.eq_of_toNat_eq
  rw [BitVec.toNat_shiftLeft, Nat.shiftLeft_eq]
  show 1 * 2 ^ S % 2 ^ 64 = 2 ^ S % 2 ^ 64
  rw [Nat.one_mul]
theorem bv_succ (J : Nat) : BitVec.ofNat 64 J + 1#64 = BitVec.ofNat 64 (J + 1) := by
  apply BitVec.eq_of_toNat_eq
  rw [BitVec.toNat_add]
  show (J % 2 ^ 64 + 1) % 2 ^ 64 = (J + 1) % 2 ^ 64
  omega
section RSEA
variable {B : Bk} {σ σ' : xS} {Q : xO → xS → Prop} {t J a : Nat} {sup : Option Nat}
theorem ev01 (w : wfB B) (ht : t < bma B) (hs : bso B t = 0) : ev B J t = 0#64 ∨ ev B J t = 1#64 := by
  have := ev_sub (J := J) w ht
  rw [bful_0 hs] at this
  have l := sub_nat (n := 1) (by decide) this
  have h4 : (ev B J t).toNat = 0 ∨ (ev B J t).toNat = 1 := by omega
  exact h4.imp (fun q => BitVec.eq_of_toNat_eq q) (fun q => BitVec.eq_of_toNat_eq q)
theorem mkB.put {c m i : Nat} {L : Nat → Bool} (h : mkB σ c m L) (hi : i < m) (b : Bool) : mkB (xpi σ c i (nI (if b then 1 else 0))) c m (fun x => if x = i then b else L x) := fun x hx => by
  rw [xi_pi]
  by_cases e : x = i
  · rw [if_pos ⟨rfl, e⟩]
    show _ = nI (if (if x = i then b else L x) = true then 1 else 0)
    rw [if_pos e]
  · rw [if_neg (fun z => e z.2)]
    show _ = nI (if (if x = i then b else L x) = true then 1 else 0)
    rw [if_neg e]
    exact h x hx
theorem r_search (h : RR B σ) (w : wfB B) (hS : bsz B ≤ 16) (hs : ∀ t, sup = some t → t < bma B ∧ bso B t = 0) (ha : a ≤ 2 ^ bsz B)
    (k : ∀ σ' r, onlyS σ σ' → leastOK B sup a r → (∀ x, r = some x → xl σ' 50 51 = jL (BitVec.ofNat 64 x) ∧ xi σ' 50 52 = nI (bsz B)) → (r = none → xl σ' 50 51 = xl σ 50 51 ∧ xi σ' 50 52 = xi σ 50 52) → Q (.inl (some (.int (bI r.isSome)))) σ') : wp_VectorSolverModel_search Q σ (jL (BitVec.ofNat 64 a)) (supI sup) := by
  have hm := wf_ma w
  have p16 : 2 ^ bsz B ≤ 65536 := Nat.pow_le_pow_right (n := 2) (by decide) hS
  have ha5 : bas B ≤ 500 := w.1.2.2.2.2.1
  have hsd : ∀ i, i < bas B → bsd B i < bma B ∧ bso B (bsd B i) = 0 := w.2.2.2.2.2.2
  -- the goals are wanted, and all that they are made of is needed: then the numbers one by one
  have main : ∀ s (N W : Nat → Bool), oN [82, 83] [81] σ s → mkB s 82 (bma B) N → mkB s 83 (bma B) W → (∀ t, t < bma B → (W t = true ↔ isGoal B sup t)) → (∀ t, t < bma B → W t = true → N t = true) → (∀ t, t < bma B → N t = true → ∀ i, bfi B t ≤ i → i < bfi B (t + 1) → N (bar B i) = true) → ∃ m, w_VectorSolverModel_search_174 Q m (jL (BitVec.ofNat 64 a)) s := by
    intro s N W o1 hN hW hG hWN hNc
    have gb : ∀ t, isGoal B sup t → t < bma B ∧ bso B t = 0 := fun t g => by
      rcases g with ⟨i, i1, i2⟩ | g
      · rw [← i2]; exact hsd i i1
      · exact hs t g
    have key := loop_i (σ := xS) (fun n J s2 => w_VectorSolverModel_search_174 Q n (jL (BitVec.ofNat 64 J)) s2) (fun J s2 => a ≤ J ∧ oN [82, 83] [81] σ s2 ∧ mkB s2 82 (bma B) N ∧ mkB s2 83 (bma B) W ∧ ∀ x, a ≤ x → x < J → ¬ sat B sup x) (2 ^ bsz B) (fun n s2 hI => ?_) (fun n J s2 hJ hI hs4 => ?_)
    · exact ⟨_, key (2 ^ bsz B - a + 1) a s ha (by omega) ⟨Nat.le_refl _, o1, hN, hW, fun x x1 x2 => absurd x1 (by omega)⟩⟩
    · obtain ⟨p0, p1, p2, p3, p4⟩ := hI
      have r := h.keep p1 (by decide) (by decide)
      unfold w_VectorSolverModel_search_174
      rw [r.1.2.2.2.2.2.2]
      simp (disch := omega) only [i32_lit, l64_lit, lc_eq, lc_ge, lc_le, lc_gt, lc_lt, jL_inj, jL_add, jL_sub, jL_mul, jL_neg, jL_and, jL_or, jL_xor, jL_mone, BitVec.xor_allOnes, nI_clamp, nI_ltI, nI_leI, nI_eq, nI_1, nI_add, nI_sub, nI_addm, nI_mul, vp_in_n, xi_pi, xi_pl, xl_pi, xl_pl, xb_pi, xb_pl, xqi_i, xql_l, xqv_v, xqi_e, xql_e, xqv_e, forall_eq, true_and, and_true]
      rw [jL_shl _ (by omega)]
      have e1 := bv_pow (bsz B)
      rw [e1]
      refine ⟨fun _ => k s2 none p1.toS (fun x x1 x2 => p4 x x1 x2) (fun x q => (by cases q)) (fun _ => ⟨p1.2.1 50 51 (by decide), p1.1 50 52 (by decide)⟩), fun z => absurd (Int64.le_refl _) z⟩
    · obtain ⟨p0, p1, p2, p3, p4⟩ := hI
      have r := h.keep p1 (by decide) (by decide)
      unfold w_VectorSolverModel_search_174
      rw [r.1.2.2.2.2.2.2]
      simp (disch := omega) only [i32_lit, l64_lit, lc_eq, lc_ge, lc_le, lc_gt, lc_lt, jL_inj, jL_add, jL_sub, jL_mul, jL_neg, jL_and, jL_or, jL_xor, jL_mone, BitVec.xor_allOnes, nI_clamp, nI_ltI, nI_leI, nI_eq, nI_1, nI_add, nI_sub, nI_addm, nI_mul, vp_in_n, xi_pi, xi_pl, xl_pi, xl_pl, xb_pi, xb_pl, xqi_i, xql_l, xqv_v, xqi_e, xql_e, xqv_e, forall_eq, true_and, and_true]
      rw [jL_shl _ (by omega)]
      have e1 := bv_pow (bsz B)
      have lt : ¬ jL (1#64 <<< bsz B) ≤ jL (BitVec.ofNat 64 J) := by
        rw [e1, Int64.le_iff_toInt_le]
        show ¬ (BitVec.ofNat 64 (2 ^ bsz B)).toInt ≤ (BitVec.ofNat 64 J).toInt
        rw [BitVec.toInt_eq_toNat_cond, BitVec.toInt_eq_toNat_cond, BitVec.toNat_ofNat, BitVec.toNat_ofNat, Nat.mod_eq_of_lt (by omega), Nat.mod_eq_of_lt (by omega), if_pos (by omega), if_pos (by omega)]
        omega
      refine ⟨fun z => absurd z lt, fun _ => ?_⟩
      refine r_lay r w hS (by omega) (fun s3 o3 t3 => ?_)
      rw [xqv_v]
      have o13 := p1.trans (o3.up (by decide) (by decide))
      have r3 := h.keep o13 (by decide) (by decide)
      have n3 : mkB s3 82 (bma B) N := fun x hx => (o3.1 82 x (by decide)).trans (p2 x hx)
      have w3 : mkB s3 83 (bma B) W := fun x hx => (o3.1 83 x (by decide)).trans (p3 x hx)
      refine r_workOut (J := J) r3 w hS n3 w3 hNc (fun t ht wt => (gb t ((hG t ht).mp wt)).2) t3 (fun s4 rr o4 r4 _ => ?_)
      rw [xqi_i]
      have o14 := o13.trans (o4.up (by decide) (by decide))
      have satJ : rr = true ↔ sat B sup J := by
        rw [r4]
        constructor
        · intro q b gb2
          have hb := gb b gb2
          have wb := (hG b hb.1).mpr gb2
          rw [q b hb.1 (hWN b hb.1 wb) wb]
          decide
        · intro q b hb nb wb
          have g := (hG b hb).mp wb
          exact (ev01 w hb (gb b g).2).resolve_left (q b g)
      simp (disch := omega) only [i32_lit, l64_lit, lc_eq, lc_ge, lc_le, lc_gt, lc_lt, jL_inj, jL_add, jL_sub, jL_mul, jL_neg, jL_and, jL_or, jL_xor, jL_mone, BitVec.xor_allOnes, nI_clamp, nI_ltI, nI_leI, nI_eq, nI_1, nI_add, nI_sub, nI_addm, nI_mul, vp_in_n, xi_pi, xi_pl, xl_pi, xl_pl, xb_pi, xb_pl, xqi_i, xql_l, xqv_v, xqi_e, xql_e, xqv_e, forall_eq, true_and, and_true, bI_0]
      refine ⟨fun e => ?_, fun e => ?_⟩
      · have e2 : jL (BitVec.ofNat 64 J + 1#64) = jL (BitVec.ofNat 64 (J + 1)) := by
          rw [bv_succ]
        rw [e2]
        refine hs4 s4 ⟨by omega, o14, fun x hx => (o4.1 82 x (by decide)).trans (n3 x hx), fun x hx => (o4.1 83 x (by decide)).trans (w3 x hx), fun x x1 x2 => ?_⟩
        by_cases c : x = J
        · rw [c]; exact fun q => by rw [satJ.mpr q] at e; cases e
        · exact p4 x x1 (by omega)
      · have rt : rr = true := by cases q : rr with
          | true => rfl
          | false => exact absurd q e
        have x45 : xi s4 50 45 = nI (bsz B) := (o14.1 50 45 (by decide)).trans h.1.2.2.2.2.2.2
        rw [x45]
        refine k _ (some J) ?_ ⟨p0, hJ, satJ.mp rt, p4⟩ (fun x q => ?_) (fun q => (by cases q))
        · refine o14.toS.trans ⟨fun c d q1 q2 q3 => by rw [xi_pi, if_neg q3]; rfl, fun c d q1 q2 => ?_, rfl⟩
          rw [xl_pi, xl_pl, if_neg q2]
        · cases q
          refine ⟨?_, ?_⟩
          · rw [xl_pi, xl_pl, if_pos ⟨rfl, rfl⟩]
          · rw [xi_pi, if_pos ⟨rfl, rfl⟩]
  -- what the goals are made of
  have cone : ∀ s (W : Nat → Bool), oN [82, 83] [81] σ s → mkB s 82 (bma B) (fun _ => false) → mkB s 83 (bma B) W → (∀ t, t < bma B → (W t = true ↔ isGoal B sup t)) → ∃ m, w_VectorSolverModel_search_83 Q m (jL (BitVec.ofNat 64 a)) (nI (bma B) + -nI 1) s := by
    intro s W o1 hN hW hG
    have key := loop_m (σ := Nat × xS) (fun n s2 => w_VectorSolverModel_search_83 Q n (jL (BitVec.ofNat 64 a)) (nI s2.1 + -nI 1) s2.2) (fun s2 => s2.1 ≤ bma B ∧ oN [82, 83] [81] σ s2.2 ∧ mkB s2.2 83 (bma B) W ∧ ∃ N, mkB s2.2 82 (bma B) N ∧ (∀ t, s2.1 ≤ t → t < bma B → W t = true → N t = true) ∧ (∀ t, s2.1 ≤ t → t < bma B → N t = true → ∀ i, bfi B t ≤ i → i < bfi B (t + 1) → N (bar B i) = true)) (fun s2 => s2.1) (fun n s2 hI hs2 => ?_) (bma B, s) ⟨Nat.le_refl _, o1, hW, _, hN, fun t t1 t2 => absurd t2 (by have t1 : bma B ≤ t := t1; omega), fun t t1 t2 => absurd t2 (by have t1 : bma B ≤ t := t1; omega)⟩
    · exact key
    · obtain ⟨p0, p1, p2, N, p3, p4, p5⟩ := hI
      have r := h.keep p1 (by decide) (by decide)
      show w_VectorSolverModel_search_83 Q (n + 1) (jL (BitVec.ofNat 64 a)) (nI s2.1 + -nI 1) s2.2
      unfold w_VectorSolverModel_search_83
      simp (disch := omega) only [i32_lit, l64_lit, lc_eq, lc_ge, lc_le, lc_gt, lc_lt, jL_inj, jL_add, jL_sub, jL_mul, jL_neg, jL_and, jL_or, jL_xor, jL_mone, BitVec.xor_allOnes, nI_clamp, nI_ltI, nI_leI, nI_eq, nI_1, nI_add, nI_sub, nI_addm, nI_mul, vp_in_n, xi_pi, xi_pl, xl_pi, xl_pl, xb_pi, xb_pl, xqi_i, xql_l, xqv_v, xqi_e, xql_e, xqv_e, forall_eq, true_and, and_true, nI_m1lt]
      refine ⟨fun q => main s2.2 N W p1 p3 p2 hG (fun t ht => p4 t (by omega) ht) (fun t ht => p5 t (by omega) ht), fun q => ?_⟩
      have es : nI s2.1 + -nI 1 = nI (s2.1 - 1) := nI_addm (by omega)
      have tl : s2.1 - 1 < bma B := by omega
      obtain ⟨f1, f2, f3⟩ := wf_fi w tl
      rw [es]
      -- its arguments, where it is needed
      have args : ∀ (s3 : xS) (N2 : Nat → Bool), oN [82, 83] [81] σ s3 → mkB s3 83 (bma B) W → mkB s3 82 (bma B) N2 → (∀ x, x ≠ s2.1 - 1 → N2 x = N x) → (N2 (s2.1 - 1) = false → W (s2.1 - 1) = false) → (N (s2.1 - 1) = true → N2 (s2.1 - 1) = true) → ∃ m, w_VectorSolverModel_search_123 Q (w_VectorSolverModel_search_83 Q n) m (jL (BitVec.ofNat 64 a)) (nI (s2.1 - 1)) (nI 0) s3 := by
        intro s3 N2 v1 v2 v3 v4 v5 v6
        have fin4 : ∀ (s5 : xS) (N5 : Nat → Bool), oN [82, 83] [81] σ s5 → mkB s5 83 (bma B) W → mkB s5 82 (bma B) N5 → (∀ x, s2.1 - 1 ≤ x → N5 x = N2 x) → (∀ x, N2 x = true → N5 x = true) → (N2 (s2.1 - 1) = true → ∀ i, bfi B (s2.1 - 1) ≤ i → i < bfi B (s2.1 - 1 + 1) → N5 (bar B i) = true) → w_VectorSolverModel_search_83 Q n (jL (BitVec.ofNat 64 a)) (nI (s2.1 - 1) + -nI 1) s5 := by
          intro s5 N5 u1 u2 u3 u4 u5 u6
          refine hs2 (s2.1 - 1, s5) ⟨by show s2.1 - 1 ≤ bma B; omega, u1, u2, N5, u3, fun t t1 t2 wt => ?_, fun t t1 t2 nt i i1 i2 => ?_⟩ (by show s2.1 - 1 < s2.1; omega)
          · have t1 : s2.1 - 1 ≤ t := t1
            rw [u4 t t1]
            by_cases c : t = s2.1 - 1
            · rw [c]
              cases e : N2 (s2.1 - 1) with
              | true => rfl
              | false => rw [c, v5 e] at wt; cases wt
            · rw [v4 t c]; exact p4 t (by omega) t2 wt
          · have t1 : s2.1 - 1 ≤ t := t1
            rw [u4 t t1] at nt
            by_cases c : t = s2.1 - 1
            · rw [c] at nt i1 i2; exact u6 nt i i1 i2
            · rw [v4 t c] at nt
              have := p5 t (by omega) t2 nt i i1 i2
              refine u5 _ ?_
              by_cases c2 : bar B i = s2.1 - 1
              · rw [c2]
                rw [c2] at this
                exact v6 this
              · rw [v4 _ c2]; exact this
        cases en : N2 (s2.1 - 1) with
        | false =>
          refine ⟨1, ?_⟩
          have r3 := h.keep v1 (by decide) (by decide)
          unfold w_VectorSolverModel_search_123
          simp (disch := omega) only [i32_lit, l64_lit, lc_eq, lc_ge, lc_le, lc_gt, lc_lt, jL_inj, jL_add, jL_sub, jL_mul, jL_neg, jL_and, jL_or, jL_xor, jL_mone, BitVec.xor_allOnes, nI_clamp, nI_ltI, nI_leI, nI_eq, nI_1, nI_add, nI_sub, nI_addm, nI_mul, vp_in_n, xi_pi, xi_pl, xl_pi, xl_pl, xb_pi, xb_pl, xqi_i, xql_l, xqv_v, xqi_e, xql_e, xqv_e, forall_eq, true_and, and_true, rr_ma r3, mkB_0 v3]
          have f4 := fin4 s3 N2 v1 v2 v3 (fun _ _ => rfl) (fun _ q => q) (fun q => by rw [en] at q; cases q)
          exact ⟨fun _ => f4, fun _ => ⟨fun _ => f4, fun q => absurd en q⟩⟩
        | true =>
          have key3 := loop_i (σ := xS) (fun m i s5 => w_VectorSolverModel_search_123 Q (w_VectorSolverModel_search_83 Q n) m (jL (BitVec.ofNat 64 a)) (nI (s2.1 - 1)) (nI i) s5) (fun i s5 => oN [82, 83] [81] σ s5 ∧ mkB s5 83 (bma B) W ∧ ∃ N5, mkB s5 82 (bma B) N5 ∧ (∀ x, s2.1 - 1 ≤ x → N5 x = N2 x) ∧ (∀ x, N2 x = true → N5 x = true) ∧ ∀ j, j < i → N5 (bar B (bfi B (s2.1 - 1) + j)) = true) (bfi B (s2.1 - 1 + 1) - bfi B (s2.1 - 1)) (fun m s5 hU => ?_) (fun m i s5 hi hU hs6 => ?_)
          · exact ⟨_, key3 (bfi B (s2.1 - 1 + 1) - bfi B (s2.1 - 1) + 1) 0 s3 (by omega) (by omega) ⟨v1, v2, N2, v3, fun _ _ => rfl, fun _ q => q, fun j hj => absurd hj (by omega)⟩⟩
          · obtain ⟨u1, u2, N5, u3, u4, u5, u6⟩ := hU
            have r5 := h.keep u1 (by decide) (by decide)
            unfold w_VectorSolverModel_search_123
            simp (disch := omega) only [i32_lit, l64_lit, lc_eq, lc_ge, lc_le, lc_gt, lc_lt, jL_inj, jL_add, jL_sub, jL_mul, jL_neg, jL_and, jL_or, jL_xor, jL_mone, BitVec.xor_allOnes, nI_clamp, nI_ltI, nI_leI, nI_eq, nI_1, nI_add, nI_sub, nI_addm, nI_mul, vp_in_n, xi_pi, xi_pl, xl_pi, xl_pl, xb_pi, xb_pl, xqi_i, xql_l, xqv_v, xqi_e, xql_e, xqv_e, forall_eq, true_and, and_true, rr_ma r5]
            refine ⟨fun _ => fin4 s5 N5 u1 u2 u3 u4 u5 (fun _ i i1 i2 => ?_), fun z => absurd (Nat.le_refl _) z⟩
            have := u6 (i - bfi B (s2.1 - 1)) (by omega)
            rw [show bfi B (s2.1 - 1) + (i - bfi B (s2.1 - 1)) = i by omega] at this
            exact this
          · obtain ⟨u1, u2, N5, u3, u4, u5, u6⟩ := hU
            have r5 := h.keep u1 (by decide) (by decide)
            have nt : N5 (s2.1 - 1) = true := u5 _ en
            have la := wf_ar w tl (show bfi B (s2.1 - 1) ≤ bfi B (s2.1 - 1) + i by omega) (by omega)
            unfold w_VectorSolverModel_search_123
            simp (disch := omega) only [i32_lit, l64_lit, lc_eq, lc_ge, lc_le, lc_gt, lc_lt, jL_inj, jL_add, jL_sub, jL_mul, jL_neg, jL_and, jL_or, jL_xor, jL_mone, BitVec.xor_allOnes, nI_clamp, nI_ltI, nI_leI, nI_eq, nI_1, nI_add, nI_sub, nI_addm, nI_mul, vp_in_n, xi_pi, xi_pl, xl_pi, xl_pl, xb_pi, xb_pl, xqi_i, xql_l, xqv_v, xqi_e, xql_e, xqv_e, forall_eq, true_and, and_true, rr_ma r5, mkB_0 u3]
            refine ⟨fun z => absurd z (by omega), fun _ => ⟨fun z => (by rw [nt] at z; cases z), fun _ => ?_⟩⟩
            refine r_of r5 w tl hi ?_
            rw [xqi_i]
            simp (disch := omega) only [i32_lit, l64_lit, lc_eq, lc_ge, lc_le, lc_gt, lc_lt, jL_inj, jL_add, jL_sub, jL_mul, jL_neg, jL_and, jL_or, jL_xor, jL_mone, BitVec.xor_allOnes, nI_clamp, nI_ltI, nI_leI, nI_eq, nI_1, nI_add, nI_sub, nI_addm, nI_mul, vp_in_n, xi_pi, xi_pl, xl_pi, xl_pl, xb_pi, xb_pl, xqi_i, xql_l, xqv_v, xqi_e, xql_e, xqv_e, forall_eq, true_and, and_true, narB_1]
            have pm := u3.put (show bar B (bfi B (s2.1 - 1) + i) < bma B by omega) true
            refine hs6 _ ⟨u1.trans ((oN.pi s5 82 _ _).up (by decide) (by decide)), fun x hx => by rw [xi_pi, if_neg (by omega)]; exact u2 x hx, _, pm, fun x hx => ?_, fun x hx => ?_, fun j hj => ?_⟩
            · show (if x = bar B (bfi B (s2.1 - 1) + i) then true else N5 x) = N2 x
              rw [if_neg (by omega)]; exact u4 x hx
            · show (if x = bar B (bfi B (s2.1 - 1) + i) then true else N5 x) = true
              by_cases c : x = bar B (bfi B (s2.1 - 1) + i)
              · rw [if_pos c]
              · rw [if_neg c]; exact u5 x hx
            · show (if bar B (bfi B (s2.1 - 1) + j) = bar B (bfi B (s2.1 - 1) + i) then true else N5 (bar B (bfi B (s2.1 - 1) + j))) = true
              by_cases c : j = i
              · rw [c, if_pos rfl]
              · by_cases c2 : bar B (bfi B (s2.1 - 1) + j) = bar B (bfi B (s2.1 - 1) + i)
                · rw [if_pos c2]
                · rw [if_neg c2]; exact u6 j (by omega)
      have set1 : (N (s2.1 - 1) = true ∨ W (s2.1 - 1) = true) → w_VectorSolverModel_search_114 Q (w_VectorSolverModel_search_83 Q n) (jL (BitVec.ofNat 64 a)) (nI (s2.1 - 1)) (nI (s2.1 - 1)) s2.2 := by
        intro hor
        unfold w_VectorSolverModel_search_114
        simp (disch := omega) only [i32_lit, l64_lit, lc_eq, lc_ge, lc_le, lc_gt, lc_lt, jL_inj, jL_add, jL_sub, jL_mul, jL_neg, jL_and, jL_or, jL_xor, jL_mone, BitVec.xor_allOnes, nI_clamp, nI_ltI, nI_leI, nI_eq, nI_1, nI_add, nI_sub, nI_addm, nI_mul, vp_in_n, xi_pi, xi_pl, xl_pi, xl_pl, xb_pi, xb_pl, xqi_i, xql_l, xqv_v, xqi_e, xql_e, xqv_e, forall_eq, true_and, and_true, narB_1]
        have pm := p3.put tl true
        refine args _ _ (p1.trans ((oN.pi s2.2 82 _ _).up (by decide) (by decide))) (fun x hx => by rw [xi_pi, if_neg (by omega)]; exact p2 x hx) pm (fun x hx => if_neg hx) (fun q => ?_) (fun _ => if_pos rfl)
        have q : (if s2.1 - 1 = s2.1 - 1 then true else N (s2.1 - 1)) = false := q
        rw [if_pos rfl] at q
        cases q
      simp (disch := omega) only [i32_lit, l64_lit, lc_eq, lc_ge, lc_le, lc_gt, lc_lt, jL_inj, jL_add, jL_sub, jL_mul, jL_neg, jL_and, jL_or, jL_xor, jL_mone, BitVec.xor_allOnes, nI_clamp, nI_ltI, nI_leI, nI_eq, nI_1, nI_add, nI_sub, nI_addm, nI_mul, vp_in_n, xi_pi, xi_pl, xl_pi, xl_pl, xb_pi, xb_pl, xqi_i, xql_l, xqv_v, xqi_e, xql_e, xqv_e, forall_eq, true_and, and_true, mkB_0 p3, mkB_0 p2, narB_0]
      refine ⟨fun z => set1 (Or.inl (by cases e : N (s2.1 - 1) with | true => rfl | false => exact absurd e z)), fun z => ⟨fun z2 => ?_, fun z2 => set1 (Or.inr (by cases e : W (s2.1 - 1) with | true => rfl | false => exact absurd e z2))⟩⟩
      have pm := p3.put tl false
      refine args _ _ (p1.trans ((oN.pi s2.2 82 _ _).up (by decide) (by decide))) (fun x hx => by rw [xi_pi, if_neg (by omega)]; exact p2 x hx) pm (fun x hx => if_neg hx) (fun _ => z2) (fun q => ?_)
      rw [z] at q
      cases q
  -- the assertions
  have asrt : ∀ s, oN [82, 83] [81] σ s → mkB s 82 (bma B) (fun _ => false) → mkB s 83 (bma B) (fun x => decide (sup = some x)) → ∃ m, w_VectorSolverModel_search_47 Q m (jL (BitVec.ofNat 64 a)) 0 s := by
    intro s o1 hN hW
    have key := loop_i (σ := xS) (fun n i s2 => w_VectorSolverModel_search_47 Q n (jL (BitVec.ofNat 64 a)) (nI i) s2) (fun i s2 => oN [82, 83] [81] σ s2 ∧ mkB s2 82 (bma B) (fun _ => false) ∧ ∃ W, mkB s2 83 (bma B) W ∧ ∀ t, W t = true ↔ (sup = some t ∨ ∃ j, j < i ∧ bsd B j = t)) (bas B) (fun n s2 hI => ?_) (fun n i s2 hi hI hs2 => ?_)
    · exact ⟨_, key (bas B + 1) 0 s (by omega) (by omega) ⟨o1, hN, _, hW, fun t => ⟨fun q => Or.inl (of_decide_eq_true q), fun q => decide_eq_true (q.resolve_right (fun ⟨j, hj, _⟩ => absurd hj (by omega)))⟩⟩⟩
    · obtain ⟨p1, p2, W, p3, p4⟩ := hI
      have r := h.keep p1 (by decide) (by decide)
      unfold w_VectorSolverModel_search_47
      rw [r.1.2.2.2.1, r.1.1]
      simp (disch := omega) only [i32_lit, l64_lit, lc_eq, lc_ge, lc_le, lc_gt, lc_lt, jL_inj, jL_add, jL_sub, jL_mul, jL_neg, jL_and, jL_or, jL_xor, jL_mone, BitVec.xor_allOnes, nI_clamp, nI_ltI, nI_leI, nI_eq, nI_1, nI_add, nI_sub, nI_addm, nI_mul, vp_in_n, xi_pi, xi_pl, xl_pi, xl_pl, xb_pi, xb_pl, xqi_i, xql_l, xqv_v, xqi_e, xql_e, xqv_e, forall_eq, true_and, and_true]
      refine ⟨fun _ => ?_, fun z => absurd (Nat.le_refl _) z⟩
      have := cone s2 W p1 p2 p3 (fun t _ => (p4 t).trans ⟨fun q => q.elim Or.inr (fun ⟨j, j1, j2⟩ => Or.inl ⟨j, j1, j2⟩), fun q => q.elim (fun ⟨j, j1, j2⟩ => Or.inr ⟨j, j1, j2⟩) Or.inl⟩)
      rw [← Int32.sub_eq_add_neg] at this
      exact this
    · obtain ⟨p1, p2, W, p3, p4⟩ := hI
      have r := h.keep p1 (by decide) (by decide)
      have sd := hsd i hi
      unfold w_VectorSolverModel_search_47
      rw [r.1.2.2.2.1]
      simp (disch := omega) only [i32_lit, l64_lit, lc_eq, lc_ge, lc_le, lc_gt, lc_lt, jL_inj, jL_add, jL_sub, jL_mul, jL_neg, jL_and, jL_or, jL_xor, jL_mone, BitVec.xor_allOnes, nI_clamp, nI_ltI, nI_leI, nI_eq, nI_1, nI_add, nI_sub, nI_addm, nI_mul, vp_in_n, xi_pi, xi_pl, xl_pi, xl_pl, xb_pi, xb_pl, xqi_i, xql_l, xqv_v, xqi_e, xql_e, xqv_e, forall_eq, true_and, and_true, r.2.2.2.2.2.1 i hi, narB_1]
      refine ⟨fun z => absurd z (by omega), fun _ => ?_⟩
      have pm := p3.put sd.1 true
      refine hs2 _ ⟨p1.trans ((oN.pi s2 83 _ _).up (by decide) (by decide)), fun x hx => by rw [xi_pi, if_neg (by omega)]; exact p2 x hx, _, pm, fun t => ?_⟩
      show (if t = bsd B i then true else W t) = true ↔ _
      by_cases c : t = bsd B i
      · rw [if_pos c]
        exact ⟨fun _ => Or.inr ⟨i, by omega, c.symm⟩, fun _ => rfl⟩
      · rw [if_neg c, p4 t]
        exact ⟨fun q => q.imp id (fun ⟨j, j1, j2⟩ => ⟨j, by omega, j2⟩), fun q => q.imp id (fun ⟨j, j1, j2⟩ => ⟨j, by
          by_cases d : j = i
          · rw [d] at j2; exact absurd j2.symm c
          · omega, j2⟩)⟩
  unfold wp_VectorSolverModel_search
  have key := loop_i (σ := xS) (fun n t s => w_VectorSolverModel_search_3 Q n (jL (BitVec.ofNat 64 a)) (supI sup) (nI t) s) (fun t s => oN [82, 83] [81] σ s ∧ mkB s 82 t (fun _ => false) ∧ mkB s 83 t (fun x => decide (sup = some x))) (bma B) (fun n s hI => ?_) (fun n t s ht hI hs2 => ?_)
  · exact ⟨_, key (bma B + 1) 0 σ (by omega) (by omega) ⟨oN.refl _ _ _, fun x hx => absurd hx (by omega), fun x hx => absurd hx (by omega)⟩⟩
  · obtain ⟨p1, p2, p3⟩ := hI
    have r := h.keep p1 (by decide) (by decide)
    unfold w_VectorSolverModel_search_3
    rw [r.1.1]
    exact ⟨fun _ => asrt s p1 p2 p3, fun z => absurd (Int32.le_refl _) z⟩
  · obtain ⟨p1, p2, p3⟩ := hI
    have r := h.keep p1 (by decide) (by decide)
    have go : ∀ b : Bool, b = decide (sup = some t) → w_VectorSolverModel_search_29 Q (w_VectorSolverModel_search_3 Q n) (jL (BitVec.ofNat 64 a)) (supI sup) (nI t) (nI t) (nI (if b then 1 else 0)) s := by
      intro b hb
      unfold w_VectorSolverModel_search_29
      have nb : vp_nar .boolean (nI (if b then 1 else 0)) = nI (if b then 1 else 0) := by
        cases b
        · exact narB_0
        · exact narB_1
      rw [nb]
      simp (disch := omega) only [i32_lit, l64_lit, lc_eq, lc_ge, lc_le, lc_gt, lc_lt, jL_inj, jL_add, jL_sub, jL_mul, jL_neg, jL_and, jL_or, jL_xor, jL_mone, BitVec.xor_allOnes, nI_clamp, nI_ltI, nI_leI, nI_eq, nI_1, nI_add, nI_sub, nI_addm, nI_mul, vp_in_n, xi_pi, xi_pl, xl_pi, xl_pl, xb_pi, xb_pl, xqi_i, xql_l, xqv_v, xqi_e, xql_e, xqv_e, forall_eq, true_and, and_true, narB_0]
      refine hs2 _ ⟨p1.trans (((oN.pi s 83 _ _).up (by decide) (by decide)).trans ((oN.pi _ 82 _ _).up (by decide) (by decide))), fun x hx => ?_, fun x hx => ?_⟩
      · rw [xi_pi]
        by_cases c : x = t
        · rw [if_pos ⟨rfl, c⟩]; rfl
        · rw [if_neg (fun z => c z.2), xi_pi, if_neg (by omega)]; exact p2 x (by omega)
      · rw [xi_pi, if_neg (by omega), xi_pi]
        show _ = nI (if decide (sup = some x) = true then 1 else 0)
        by_cases c : x = t
        · rw [if_pos ⟨rfl, c⟩, c, ← hb]
        · rw [if_neg (fun z => c z.2)]; exact p3 x (by omega)
    have eqs : (nI t = supI sup) ↔ sup = some t := by
      cases sup with
      | none =>
        have : (nI t = -1) = False := nI_ne_m1 (by omega)
        show (nI t = -1) ↔ _
        rw [this]
        exact ⟨fun q => q.elim, fun q => by cases q⟩
      | some u =>
        have := (hs u rfl).1
        show nI t = nI u ↔ _
        rw [nI_eq (by omega) (by omega)]
        exact ⟨fun q => by rw [q], fun q => by cases q; rfl⟩
    unfold w_VectorSolverModel_search_3
    rw [r.1.1]
    refine ⟨fun z => absurd ((nI_leI (by omega) (by omega)).mp z) (by omega), fun _ => ⟨fun e => ?_, fun e => ?_⟩⟩
    · exact go false (decide_eq_false (fun q => e (eqs.mpr q))).symm
    · exact go true (decide_eq_true (eqs.mp e)).symm
end RSEA
