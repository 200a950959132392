section RWORK
variable {B : Bk} {σ σ' : xS} {Q : xO → xS → Prop} {t J : Nat}
theorem wof_ok {s : Nat} (ok : okS s) : szs s = (if s % 128 = 0 then 1 else s % 128) * ncl s := by
  unfold szs ncl
  by_cases e : s = 0
  · rw [if_pos e, e]; rfl
  · have : 1 ≤ s % 128 := by unfold okS at ok; omega
    rw [if_neg e, if_neg (by omega)]
theorem th_cel {i c : Nat} (w : wfB B) (hi : i < bth B) (hc : c < ncl (bso B (btt B i))) : cel (bso B (btt B i)) (ev B J (btt B i)) c = (BitVec.ofNat 64 J >>> (bsz B - bbe B i - (if bso B (btt B i) % 128 = 0 then 1 else bso B (btt B i) % 128) * (c + 1))) &&& bm (if bso B (btt B i) % 128 = 0 then 1 else bso B (btt B i) % 128) := by
  have yt := wf_th w hi
  have ok := wf_so w yt.1
  have b1 := be_sz w (show i + 1 ≤ bth B by omega)
  have sz := wof_ok ok
  have z0 : bso B (btt B i) = 0 ↔ bso B (btt B i) % 128 = 0 := by unfold okS at ok; omega
  rw [ev_th w hi]
  unfold bful
  rw [cel_full ok hc]
  unfold cel
  have ew : (if bso B (btt B i) = 0 then 1 else bso B (btt B i) % 128) = (if bso B (btt B i) % 128 = 0 then 1 else bso B (btt B i) % 128) := by
    by_cases e : bso B (btt B i) = 0
    · rw [if_pos e, if_pos (z0.mp e)]
    · rw [if_neg e, if_neg (fun q => e (z0.mpr q))]
  rw [ew]
  have ec : csh (bso B (btt B i)) c = (ncl (bso B (btt B i)) - 1 - c) * (if bso B (btt B i) % 128 = 0 then 1 else bso B (btt B i) % 128) := by
    unfold csh
    show (ncl (bso B (btt B i)) - 1 - c) * (bso B (btt B i) % 128) = _
    by_cases e : bso B (btt B i) % 128 = 0
    · have : ncl (bso B (btt B i)) = 1 := ncl_1 (by have := z0.mpr e; omega)
      rw [if_pos e, this, show 1 - 1 - c = 0 by omega, Nat.zero_mul, Nat.zero_mul]
    · rw [if_neg e]
  rw [ec]
  generalize (if bso B (btt B i) % 128 = 0 then 1 else bso B (btt B i) % 128) = W at *
  generalize ncl (bso B (btt B i)) = N at *
  congr 1
  rw [← BitVec.shiftRight_add]
  congr 1
  have e1 : W * N = W * (c + 1) + (N - 1 - c) * W := by
    rw [Nat.mul_comm (N - 1 - c), ← Nat.mul_add, show c + 1 + (N - 1 - c) = N by omega]
  rw [yt.2.2.2, sz, e1] at b1 ⊢
  omega
theorem sshr_pos {v : BitVec 64} {k : Nat} (hv : v.toNat < 2 ^ 63) : v.sshiftRight k = v >>> k := by
  rw [BitVec.sshiftRight_eq_of_msb_false]
  exact Bool.eq_false_iff.mpr (fun q => by have := (msb_63 v).mp q; omega)
theorem r_lay (h : RR B σ) (w : wfB B) (hS : bsz B ≤ 16) (hJ : J < 65536)
    (k : ∀ σ', oN [] [81] σ σ' → (∀ i, i < bth B → now B J σ' (btt B i)) → Q (.inl none) σ') : wp_VectorSolverModel_lay1 Q σ (jL (BitVec.ofNat 64 J)) := by
  have hm := wf_ma w
  have ht5 : bth B ≤ 500 := w.1.2.2.2.1
  have jn : (BitVec.ofNat 64 J).toNat = J := by rw [BitVec.toNat_ofNat]; omega
  unfold wp_VectorSolverModel_lay1
  simp (disch := omega) only [i32_lit, l64_lit, lc_eq, lc_ge, lc_le, lc_gt, lc_lt, jL_inj, jL_add, jL_sub, jL_mul, jL_neg, jL_and, jL_or, jL_xor, jL_mone, BitVec.xor_allOnes, nI_clamp, nI_ltI, nI_leI, nI_eq, nI_1, nI_add, nI_sub, nI_addm, nI_mul, vp_in_n, xi_pi, xi_pl, xl_pi, xl_pl, xb_pi, xb_pl, xqi_i, xql_l, xqv_v, xqi_e, xql_e, xqv_e, forall_eq, true_and, and_true, h.1.2.2.2.2.2.2]
  have key := loop_i (σ := xS) (fun n i s => w_VectorSolverModel_lay1_8 Q n (jL (BitVec.ofNat 64 J)) (nI (bsz B - bbe B i)) (nI i) s) (fun i s => oN [] [81] σ s ∧ ∀ j, j < i → now B J s (btt B j)) (bth B) (fun n s hI => ?_) (fun n i s hi hI hs => ?_)
  · have := key (bth B + 1) 0 σ (by omega) (by omega) ⟨oN.refl _ _ _, fun j hj => absurd hj (by omega)⟩
    have b0 : bbe B 0 = 0 := w.2.2.2.2.2.1
    rw [b0, Nat.sub_zero] at this
    exact ⟨_, this⟩
  · unfold w_VectorSolverModel_lay1_8
    have r := h.keep hI.1 (by decide) (by decide)
    simp (disch := omega) only [i32_lit, l64_lit, lc_eq, lc_ge, lc_le, lc_gt, lc_lt, jL_inj, jL_add, jL_sub, jL_mul, jL_neg, jL_and, jL_or, jL_xor, jL_mone, BitVec.xor_allOnes, nI_clamp, nI_ltI, nI_leI, nI_eq, nI_1, nI_add, nI_sub, nI_addm, nI_mul, vp_in_n, xi_pi, xi_pl, xl_pi, xl_pl, xb_pi, xb_pl, xqi_i, xql_l, xqv_v, xqi_e, xql_e, xqv_e, forall_eq, true_and, and_true, r.1.2.2.2.2.1]
    exact ⟨fun _ => k s hI.1 hI.2, fun z => absurd (Nat.le_refl _) z⟩
  · obtain ⟨h1, h2⟩ := hI
    have r := h.keep h1 (by decide) (by decide)
    have yt := wf_th w hi
    have ok := wf_so w yt.1
    have okl : bso B (btt B i) % 128 ≤ 64 := ok.2.1
    have nc := ncl_le ok
    have b1 := be_sz w (show i + 1 ≤ bth B by omega)
    have sz := wof_ok ok
    have e80 := (r.2.2.2.2.2.2 i hi).1
    unfold w_VectorSolverModel_lay1_8
    simp (disch := omega) only [i32_lit, l64_lit, lc_eq, lc_ge, lc_le, lc_gt, lc_lt, jL_inj, jL_add, jL_sub, jL_mul, jL_neg, jL_and, jL_or, jL_xor, jL_mone, BitVec.xor_allOnes, nI_clamp, nI_ltI, nI_leI, nI_eq, nI_1, nI_add, nI_sub, nI_addm, nI_mul, vp_in_n, xi_pi, xi_pl, xl_pi, xl_pl, xb_pi, xb_pl, xqi_i, xql_l, xqv_v, xqi_e, xql_e, xqv_e, forall_eq, true_and, and_true, r.1.2.2.2.2.1, e80, rr_wi r]
    have go : ∀ W, W = (if bso B (btt B i) % 128 = 0 then 1 else bso B (btt B i) % 128) → ∃ m, w_VectorSolverModel_lay1_52 Q (w_VectorSolverModel_lay1_8 Q n) m (jL (BitVec.ofNat 64 J)) (nI (bsz B - bbe B i)) (nI i) (nI (btt B i)) (nI W) (nI 0) s := by
      intro W hW
      rw [← hW] at sz
      have key2 := loop_i (σ := xS) (fun m c s2 => w_VectorSolverModel_lay1_52 Q (w_VectorSolverModel_lay1_8 Q n) m (jL (BitVec.ofNat 64 J)) (nI (bsz B - bbe B i - W * c)) (nI i) (nI (btt B i)) (nI W) (nI c) s2) (fun c s2 => oN [] [81] σ s2 ∧ (∀ j, j < i → now B J s2 (btt B j)) ∧ ∀ d, d < c → xl s2 81 (64 * btt B i + d) = jL (cel (bso B (btt B i)) (ev B J (btt B i)) d)) (ncl (bso B (btt B i))) (fun m s2 hO => ?_) (fun m c s2 hc hO hs3 => ?_)
      · have := key2 (ncl (bso B (btt B i)) + 1) 0 s (by omega) (by omega) ⟨h1, h2, fun d hd => absurd hd (by omega)⟩
        rw [Nat.mul_zero, Nat.sub_zero] at this
        exact ⟨_, this⟩
      · obtain ⟨p1, p2, p3⟩ := hO
        have r2 := h.keep p1 (by decide) (by decide)
        unfold w_VectorSolverModel_lay1_52
        refine r_cells r2 w yt.1 ?_
        rw [xqi_i]
        simp (disch := omega) only [i32_lit, l64_lit, lc_eq, lc_ge, lc_le, lc_gt, lc_lt, jL_inj, jL_add, jL_sub, jL_mul, jL_neg, jL_and, jL_or, jL_xor, jL_mone, BitVec.xor_allOnes, nI_clamp, nI_ltI, nI_leI, nI_eq, nI_1, nI_add, nI_sub, nI_addm, nI_mul, vp_in_n, xi_pi, xi_pl, xl_pi, xl_pl, xb_pi, xb_pl, xqi_i, xql_l, xqv_v, xqi_e, xql_e, xqv_e, forall_eq, true_and, and_true]
        refine ⟨fun _ => ?_, fun z => absurd (Nat.le_refl _) z⟩
        have e2 : bsz B - bbe B i - W * ncl (bso B (btt B i)) = bsz B - bbe B (i + 1) := by rw [yt.2.2.2, sz]; omega
        rw [e2]
        refine hs s2 ⟨p1, fun j hj => ?_⟩
        by_cases e : j = i
        · rw [e]; exact p3
        · exact p2 j (by omega)
      · obtain ⟨p1, p2, p3⟩ := hO
        have r2 := h.keep p1 (by decide) (by decide)
        have wc : W * (c + 1) ≤ szs (bso B (btt B i)) := by rw [sz]; exact Nat.mul_le_mul_left _ hc
        have wc2 : W * (c + 1) = W * c + W := by rw [Nat.mul_add, Nat.mul_one]
        have be := yt.2.2.2
        unfold w_VectorSolverModel_lay1_52
        refine r_cells r2 w yt.1 ?_
        rw [xqi_i]
        simp (disch := omega) only [i32_lit, l64_lit, lc_eq, lc_ge, lc_le, lc_gt, lc_lt, jL_inj, jL_add, jL_sub, jL_mul, jL_neg, jL_and, jL_or, jL_xor, jL_mone, BitVec.xor_allOnes, nI_clamp, nI_ltI, nI_leI, nI_eq, nI_1, nI_add, nI_sub, nI_addm, nI_mul, vp_in_n, xi_pi, xi_pl, xl_pi, xl_pl, xb_pi, xb_pl, xqi_i, xql_l, xqv_v, xqi_e, xql_e, xqv_e, forall_eq, true_and, and_true, rr_wi r2]
        refine ⟨fun z => absurd z (by omega), fun _ => ?_⟩
        refine r_mask okl ?_
        rw [xql_l]
        rw [jL_sshr _ (by omega), sshr_pos (by rw [jn]; omega), jL_and, show bsz B - bbe B i - W * c - W = bsz B - bbe B i - W * (c + 1) by omega]
        have tc := th_cel (J := J) w hi hc
        rw [← hW] at tc
        rw [← hW, ← tc]
        refine hs3 _ ⟨p1.trans (oN.pl s2 81 _ _), fun j hj d hd => ?_, fun d hd => ?_⟩
        · have yj := wf_th w (show j < bth B by omega)
          have ncj := ncl_le (wf_so w yj.1)
          have ne : btt B j ≠ btt B i := fun q => by have := th_inj w (by omega) hi q; omega
          rw [xl_pl, if_neg (by omega)]
          exact p2 j hj d hd
        · rw [xl_pl]
          by_cases e : d = c
          · rw [if_pos ⟨rfl, by omega⟩, e]
          · rw [if_neg (fun z => e (by omega))]; exact p3 d (by omega)
    refine ⟨fun z => absurd z (by omega), fun _ => ⟨fun e => ?_, fun e => ?_⟩⟩
    · exact go _ (by rw [if_neg e])
    · exact go 1 (by rw [if_pos e])
theorem now.keep {a : Nat} (h : now B J σ a) (ok : okS (bso B a)) (k : ∀ j, (j < 64 * t ∨ 64 * t + 64 ≤ j) → xl σ' 81 j = xl σ 81 j) (hne : a ≠ t) : now B J σ' a := fun c hc => by
  have := ncl_le ok
  rw [k _ (by omega)]
  exact h c hc
theorem r_workOut {N W : Nat → Bool} (h : RR B σ) (w : wfB B) (hS : bsz B ≤ 16) (hN : mkB σ 82 (bma B) N) (hW : mkB σ 83 (bma B) W) (hc : ∀ t, t < bma B → N t = true → ∀ i, bfi B t ≤ i → i < bfi B (t + 1) → N (bar B i) = true) (hw : ∀ t, t < bma B → W t = true → bso B t = 0) (hth : ∀ i, i < bth B → now B J σ (btt B i))
    (k : ∀ σ' r, oN [] [81] σ σ' → (r = true ↔ ∀ t, t < bma B → N t = true → W t = true → ev B J t = 1#64) → (r = true → ∀ t, t < bma B → N t = true → now B J σ' t) → Q (.inl (some (.int (bI r)))) σ') : wp_VectorSolverModel_workOut Q σ := by
  have hm := wf_ma w
  have bt : ∀ r : Bool, (bI r = nI 0 ∨ bI r = nI 1) := fun r => by cases r <;> decide
  unfold wp_VectorSolverModel_workOut
  have key := loop_i (σ := Bool × xS) (fun n t s => w_VectorSolverModel_workOut_4 Q n (bI s.1) (nI t) s.2) (fun t s => oN [] [81] σ s.2 ∧ (∀ i, i < bth B → now B J s.2 (btt B i)) ∧ (s.1 = true → (∀ a, a < t → N a = true → now B J s.2 a) ∧ ∀ a, a < t → N a = true → W a = true → ev B J a = 1#64) ∧ (s.1 = false → ∃ a, a < bma B ∧ N a = true ∧ W a = true ∧ ev B J a ≠ 1#64)) (bma B) (fun n s hI => ?_) (fun n t s ht hI hs => ?_)
  · exact ⟨_, key (bma B + 1) 0 (true, σ) (by omega) (by omega) ⟨oN.refl _ _ _, hth, fun _ => ⟨fun a ha => absurd ha (by omega), fun a ha => absurd ha (by omega)⟩, fun q => (by cases q)⟩⟩
  · obtain ⟨h1, h2, h3, h4⟩ := hI
    have r := h.keep h1 (by decide) (by decide)
    show w_VectorSolverModel_workOut_4 Q (n + 1) (bI s.1) (nI (bma B)) s.2
    unfold w_VectorSolverModel_workOut_4
    simp (disch := omega) only [i32_lit, l64_lit, lc_eq, lc_ge, lc_le, lc_gt, lc_lt, jL_inj, jL_add, jL_sub, jL_mul, jL_neg, jL_and, jL_or, jL_xor, jL_mone, BitVec.xor_allOnes, nI_clamp, nI_ltI, nI_leI, nI_eq, nI_1, nI_add, nI_sub, nI_addm, nI_mul, vp_in_n, xi_pi, xi_pl, xl_pi, xl_pl, xb_pi, xb_pl, xqi_i, xql_l, xqv_v, xqi_e, xql_e, xqv_e, forall_eq, true_and, and_true, r.1.1]
    refine ⟨fun _ => ⟨bt _, k s.2 s.1 h1 ⟨fun q => (h3 q).2, fun q => ?_⟩ (fun q => (h3 q).1)⟩, fun z => absurd (Nat.le_refl _) z⟩
    cases e : s.1 with
    | true => rfl
    | false =>
      obtain ⟨a, a1, a2, a3, a4⟩ := h4 e
      exact absurd (q a a1 a2 a3) a4
  · obtain ⟨h1, h2, h3, h4⟩ := hI
    have r := h.keep h1 (by decide) (by decide)
    have n2 : mkB s.2 82 (bma B) N := fun a ha => (h1.1 82 a (by decide)).trans (hN a ha)
    have w2 : mkB s.2 83 (bma B) W := fun a ha => (h1.1 83 a (by decide)).trans (hW a ha)
    show w_VectorSolverModel_workOut_4 Q (n + 1) (bI s.1) (nI t) s.2
    unfold w_VectorSolverModel_workOut_4
    simp (disch := omega) only [i32_lit, l64_lit, lc_eq, lc_ge, lc_le, lc_gt, lc_lt, jL_inj, jL_add, jL_sub, jL_mul, jL_neg, jL_and, jL_or, jL_xor, jL_mone, BitVec.xor_allOnes, nI_clamp, nI_ltI, nI_leI, nI_eq, nI_1, nI_add, nI_sub, nI_addm, nI_mul, vp_in_n, xi_pi, xi_pl, xl_pi, xl_pl, xb_pi, xb_pl, xqi_i, xql_l, xqv_v, xqi_e, xql_e, xqv_e, forall_eq, true_and, and_true, r.1.1, bI_0, mkB_0 n2]
    refine ⟨fun z => absurd z (by omega), fun _ => ⟨fun e => ⟨Or.inl e, k s.2 s.1 h1 ⟨fun q => (by rw [e] at q; cases q), fun q => ?_⟩ (fun q => (by rw [e] at q; cases q))⟩, fun e => ?_⟩⟩
    · obtain ⟨a, a1, a2, a3, a4⟩ := h4 e
      exact absurd (q a a1 a2 a3) a4
    · have st : s.1 = true := by cases q : s.1 with
        | true => rfl
        | false => exact absurd q e
      obtain ⟨g1, g2⟩ := h3 st
      refine ⟨fun z => ?_, fun z => ?_⟩
      · refine hs (s.1, s.2) ⟨h1, h2, fun _ => ⟨fun a ha na => ?_, fun a ha na => ?_⟩, h4⟩
        · by_cases c : a = t
          · rw [c, z] at na; cases na
          · exact g1 a (by omega) na
        · by_cases c : a = t
          · rw [c, z] at na; cases na
          · exact g2 a (by omega) na
      · have nt : N t = true := by cases q : N t with
          | true => rfl
          | false => exact absurd q z
        refine r_one (J := J) r w hS ht (fun i hi => ?_) (fun h7 => ?_) (fun σ1 o1 n1 k1 => ?_)
        · have lt := wf_ar w ht (show bfi B t ≤ bfi B t + i by omega) (by omega)
          exact g1 _ lt (hc t ht nt _ (by omega) (by omega))
        · obtain ⟨y1, y2⟩ := th_of w ht h7
          rw [← y2]; exact h2 _ y1
        · rw [xqv_v]
          have o2 := h1.trans o1
          have w3 : mkB σ1 83 (bma B) W := fun a ha => (o2.1 83 a (by decide)).trans (hW a ha)
          have t2 : ∀ i, i < bth B → now B J σ1 (btt B i) := fun i hi => by
            by_cases c : btt B i = t
            · rw [c]; exact n1
            · exact (h2 i hi).keep (wf_so w (wf_th w hi).1) k1 c
          have a2 : ∀ a, a < t + 1 → N a = true → now B J σ1 a := fun a ha na => by
            by_cases c : a = t
            · rw [c]; exact n1
            · exact (g1 a (by omega) na).keep (wf_so w (by omega)) k1 c
          simp (disch := omega) only [i32_lit, l64_lit, lc_eq, lc_ge, lc_le, lc_gt, lc_lt, jL_inj, jL_add, jL_sub, jL_mul, jL_neg, jL_and, jL_or, jL_xor, jL_mone, BitVec.xor_allOnes, nI_clamp, nI_ltI, nI_leI, nI_eq, nI_1, nI_add, nI_sub, nI_addm, nI_mul, vp_in_n, xi_pi, xi_pl, xl_pi, xl_pl, xb_pi, xb_pl, xqi_i, xql_l, xqv_v, xqi_e, xql_e, xqv_e, forall_eq, true_and, and_true, mkB_0 w3]
          refine ⟨fun c => ?_, fun c => ?_⟩
          · unfold w_VectorSolverModel_workOut_53
            simp (disch := omega) only [i32_lit, l64_lit, lc_eq, lc_ge, lc_le, lc_gt, lc_lt, jL_inj, jL_add, jL_sub, jL_mul, jL_neg, jL_and, jL_or, jL_xor, jL_mone, BitVec.xor_allOnes, nI_clamp, nI_ltI, nI_leI, nI_eq, nI_1, nI_add, nI_sub, nI_addm, nI_mul, vp_in_n, xi_pi, xi_pl, xl_pi, xl_pl, xb_pi, xb_pl, xqi_i, xql_l, xqv_v, xqi_e, xql_e, xqv_e, forall_eq, true_and, and_true]
            refine hs (true, σ1) ⟨o2, t2, fun _ => ⟨a2, fun a ha na wa => ?_⟩, fun q => (by cases q)⟩
            by_cases d : a = t
            · rw [d, c] at wa; cases wa
            · exact g2 a (by omega) na wa
          · have wt : W t = true := by cases q : W t with
              | true => rfl
              | false => exact absurd q c
            simp (disch := omega) only [i32_lit, l64_lit, lc_eq, lc_ge, lc_le, lc_gt, lc_lt, jL_inj, jL_add, jL_sub, jL_mul, jL_neg, jL_and, jL_or, jL_xor, jL_mone, BitVec.xor_allOnes, nI_clamp, nI_ltI, nI_leI, nI_eq, nI_1, nI_add, nI_sub, nI_addm, nI_mul, vp_in_n, xi_pi, xi_pl, xl_pi, xl_pl, xb_pi, xb_pl, xqi_i, xql_l, xqv_v, xqi_e, xql_e, xqv_e, forall_eq, true_and, and_true, now_0 w ht (by rw [hw t ht wt]; omega) n1]
            refine ⟨fun c2 => hs (false, σ1) ⟨o2, t2, fun q => (by cases q), fun _ => ⟨t, ht, nt, wt, c2⟩⟩, fun c2 => ?_⟩
            unfold w_VectorSolverModel_workOut_53
            simp (disch := omega) only [i32_lit, l64_lit, lc_eq, lc_ge, lc_le, lc_gt, lc_lt, jL_inj, jL_add, jL_sub, jL_mul, jL_neg, jL_and, jL_or, jL_xor, jL_mone, BitVec.xor_allOnes, nI_clamp, nI_ltI, nI_leI, nI_eq, nI_1, nI_add, nI_sub, nI_addm, nI_mul, vp_in_n, xi_pi, xi_pl, xl_pi, xl_pl, xb_pi, xb_pl, xqi_i, xql_l, xqv_v, xqi_e, xql_e, xqv_e, forall_eq, true_and, and_true]
            refine hs (true, σ1) ⟨o2, t2, fun _ => ⟨a2, fun a ha na wa => ?_⟩, fun q => (by cases q)⟩
            by_cases d : a = t
            · rw [d]; exact c2
            · exact g2 a (by omega) na wa
end RWORK
