/-! THE REFERENCE READS: numerals and names -/
section RNM
variable {c : Nat → Nat} {l N : Nat} {B : Bk} {i j : Nat} {σ σ' : xS} {Q : xO → xS → Prop}
theorem r_numG {lo hi : Nat} (H : okN c l N) (hlo : lo ≤ 1) (hhi : hi ≤ 2147483647) (S : RS0 c l N B j σ) (kf : ∀ e σ', pN c l j lo hi = .error e → RFl B e σ σ' → oE [4, 5, 10] σ σ' → Q (.inl (some (.int (nI lo)))) σ') (ko : ∀ v σ', pN c l j lo hi = .ok v → RS c l N B j σ' → oE [10] σ σ' → Q (.inl (some (.int (nI v)))) σ') : wp_VectorSolverModel_needNumber Q σ (nI lo) (jL (BitVec.ofNat 64 hi)) := by
  have n1 := H.1
  have l1 := H.2.1
  unfold wp_VectorSolverModel_needNumber
  refine r_needG (k0 := 2) H (by decide) S (fun e σ' h f o' => ?_) (fun s1 h1 S1 o1 => ?_)
  · rw [xqi_i]
    refine ⟨fun z => absurd rfl z, fun _ => kf e σ' ?_ f o'⟩
    unfold pX at h
    unfold pN
    by_cases q : tK c l j = 2
    · rw [if_pos q] at h; cases h
    · rw [if_neg q] at h ⊢; cases h; rfl
  rw [xqi_i]
  refine ⟨fun _ => ?_, fun z => absurd z (by decide)⟩
  have k2 := pX_i h1
  have hj := S1.2.2.2.2.2.2.1
  obtain ⟨p1, p2, p3, p4⟩ := S1.2.1.t hj
  have x10 := S1.2.2.2.2.2.1
  have t2 := tok_2 (c := c) (l := l) (i := j) (by omega) (by omega)
  have vj : vp_in (nI j) 65537 := vp_in_nI (by omega) (by decide)
  rw [x10, nI_clamp (n := j) (by omega), p2]
  refine ⟨vj, fun x3 e3 => ?_⟩
  subst e3
  have key := loop_i (σ := Nat) (fun n q V => w_VectorSolverModel_needNumber_24 Q n (nI lo) (jL (BitVec.ofNat 64 hi)) (jL (BitVec.ofNat 64 V)) (nI q) s1) (fun q V => tF c l j ≤ q ∧ V ≤ 40000000009 ∧ (V = num (wtx c (tF c l j) q) ∨ (4000000000 < V ∧ V ≤ num (wtx c (tF c l j) q)))) (tE c l j) (fun n V hI => ?_) (fun n q V hq hI hs => ?_)
  · have e0 : num (wtx c (tF c l j) (tF c l j)) = 0 := by unfold wtx; rw [Nat.sub_self]; rfl
    exact ⟨_, key (tE c l j + 1) (tF c l j) 0 (by omega) (by omega) ⟨Nat.le_refl _, by omega, .inl e0.symm⟩⟩
  · obtain ⟨i1, i2, i3⟩ := hI
    have eW : num (wtx c (tF c l j) (tE c l j)) = num (tW c l j) := rfl
    rw [eW] at i3
    unfold w_VectorSolverModel_needNumber_24
    rw [x10, nI_clamp (n := j) (by omega), p3]
    refine ⟨vj, fun _ => ?_, fun z => absurd (Int32.le_refl _) z⟩
    have w109 : ¬ (lo ≤ num (tW c l j) ∧ num (tW c l j) ≤ hi) → w_VectorSolverModel_needNumber_108 Q (nI lo) (jL (BitVec.ofNat 64 V)) s1 := fun hn => by
      unfold w_VectorSolverModel_needNumber_108 w_VectorSolverModel_needNumber_109
      rw [x10, nI_clamp (n := j) (by omega), p2]
      refine ⟨vj, r_wantG (B := B) (ek := 7) (ep := tF c l j) S1.2.2.1 S1.2.2.2.1 x10 (by omega) rfl rfl rfl (by decide) (fun σ' f o' => ?_)⟩
      rw [xqi_i]
      refine ⟨fun _ => kf (7, tF c l j) σ' ?_ (RFl.e o1 (by decide) f) ((o1.up (by decide)).trans (o'.up (by decide))), fun z => absurd rfl z⟩
      unfold pN
      rw [if_pos k2, if_neg hn]
    rw [show (0 : Int32) = nI 0 from rfl, lc_gt, lc_lt, lc_gt, l64_lit, jL_i2l (by omega), jn_lt (by decide) (by omega), jn_lt (by omega) (by omega), jn_lt (by omega) (by omega)]
    refine ⟨fun z => w109 (by omega), fun z => ⟨fun y => w109 (by omega), fun y => ⟨fun x => w109 (by omega), fun x => ?_⟩⟩⟩
    have hn : lo ≤ num (tW c l j) ∧ num (tW c l j) ≤ hi := by omega
    unfold w_VectorSolverModel_needNumber_109
    refine ⟨S1.v H, r_wantT S1.2.2.2.1 (by decide) ?_⟩
    rw [xqi_i]
    refine ⟨fun z => absurd z (by decide), fun _ => ?_⟩
    rw [jL_l2i, BitVec.toNat_ofNat, Nat.mod_eq_of_lt (by omega), show V = num (tW c l j) by omega]
    refine ko _ s1 ?_ S1 o1
    unfold pN
    rw [if_pos k2, if_pos hn]
  · obtain ⟨i1, i2, i3⟩ := hI
    have dc := dig_c k2 i1 hq
    have bb := S1.1.2.2 q (by omega)
    have sn : num (wtx c (tF c l j) (q + 1)) = 10 * num (wtx c (tF c l j) q) + (c q - 48) := by rw [wtx_snoc i1, num_snoc]
    unfold w_VectorSolverModel_needNumber_24
    rw [x10, nI_clamp (n := j) (by omega), p3, nI_leI (by omega) (by omega), show (0 : Int32) = nI 0 from rfl, lc_le, show (4000000000 : Int64) = jL (BitVec.ofNat 64 4000000000) from rfl, jn_le (by omega) (by decide)]
    refine ⟨vj, fun z => absurd z (by omega), fun _ => ⟨fun z => ⟨vp_in_nI (by omega) (by decide), fun x6 e6 x7 e7 => ?_⟩, fun z x8 e8 => ?_⟩⟩
    · rw [nI_clamp (by omega), bb.2, sb_n (by omega), jL_i2l (by omega), l64_lit, l64_lit, jL_mul, jL_add, jL_sub] at e6
      rw [show (1 : Int32) = nI 1 from rfl, nI_add] at e7
      have eb : BitVec.ofNat 64 10 * BitVec.ofNat 64 V + BitVec.ofNat 64 (c q) - BitVec.ofNat 64 48 = BitVec.ofNat 64 (10 * V + (c q - 48)) := by
        apply BitVec.eq_of_toNat_eq
        simp only [BitVec.toNat_sub, BitVec.toNat_add, BitVec.toNat_mul, BitVec.toNat_ofNat]
        omega
      rw [eb] at e6
      subst e6 e7
      exact hs _ ⟨by omega, by omega, by omega⟩
    · rw [show (1 : Int32) = nI 1 from rfl, nI_add] at e8
      subst e8
      exact hs V ⟨by omega, by omega, by omega⟩
theorem r_num {lo hi : Nat} (H : okN c l N) (hlo : lo ≤ 1) (hhi : hi ≤ 2147483647) (S : RS0 c l N B j σ) (kf : ∀ e σ', pN c l j lo hi = .error e → RFl B e σ σ' → Q (.inl (some (.int (nI lo)))) σ') (ko : ∀ v σ', pN c l j lo hi = .ok v → RS c l N B j σ' → oE [10] σ σ' → Q (.inl (some (.int (nI v)))) σ') : wp_VectorSolverModel_needNumber Q σ (nI lo) (jL (BitVec.ofNat 64 hi)) := r_numG H hlo hhi S (fun e σ' h f _ => kf e σ' h f) ko
theorem r_same {w v : Nat} (H : okN c l N) (T : RTB σ c l) (P : PR σ c l N) (hw : w ≤ N) (hv : v ≤ N) (kw : tK c l w = 5) (kv : tK c l v = 5) (k : Q (.inl (some (.int (bI (decide (tW c l w = tW c l v)))))) σ) : wp_VectorSolverModel_areSame Q σ (nI w) (nI v) := by
  have n1 := H.1
  have l1 := H.2.1
  have tw := tok_2 (c := c) (l := l) (i := w) (by omega) (by omega)
  have tv := tok_2 (c := c) (l := l) (i := v) (by omega) (by omega)
  obtain ⟨p1, p2, p3, p4⟩ := P.t hw
  obtain ⟨q1, q2, q3, q4⟩ := P.t hv
  have vw : vp_in (nI w) 65537 := vp_in_nI (by omega) (by decide)
  have vv : vp_in (nI v) 65537 := vp_in_nI (by omega) (by decide)
  have ew : tW c l w = tW c l v ↔ tE c l w - tF c l w = tE c l v - tF c l v ∧ ∀ k, k < tE c l w - tF c l w → c (tF c l w + k) = c (tF c l v + k) := by
    show wtx c (tF c l w) (tE c l w) = tW c l v ↔ _
    rw [wtx_eq, tW_len]
    constructor
    · rintro ⟨h1, h⟩
      exact ⟨h1, fun k hk => by rw [h k (by omega)]; exact tW_at (by rw [tW_len]; omega)⟩
    · rintro ⟨h1, h⟩
      exact ⟨h1, fun k hk => by rw [h k (by omega), tW_at (by rw [tW_len]; omega)]⟩
  have z0 : ∀ m r, tW c l w ≠ tW c l v → w_VectorSolverModel_areSame_38 Q (m + 1) (nI w) (nI v) 0 r σ := fun m r h => by
    rw [decide_eq_false h] at k
    unfold w_VectorSolverModel_areSame_38
    exact ⟨vw, vw, fun _ => ⟨.inl rfl, k⟩, fun _ => ⟨fun _ => ⟨.inl rfl, k⟩, fun z => absurd rfl z⟩⟩
  unfold wp_VectorSolverModel_areSame
  rw [nI_clamp (n := w) (by omega), nI_clamp (n := v) (by omega), p2, p3, q2, q3, nI_sub (by omega), nI_sub (by omega), nI_eq (by omega) (by omega)]
  refine ⟨vw, vw, vv, vv, fun z => ⟨1, z0 0 _ (fun h => z (ew.mp h).1)⟩, fun z => ?_⟩
  have key := loop_i (σ := Unit) (fun m r _ => w_VectorSolverModel_areSame_38 Q (m + 1) (nI w) (nI v) 1 (nI r) σ) (fun r _ => ∀ k, k < r → c (tF c l w + k) = c (tF c l v + k)) (tE c l w - tF c l w) (fun m _ hI => ?_) (fun m r _ hr hI hs => ?_)
  · exact ⟨_, key (tE c l w - tF c l w + 1) 0 () (by omega) (by omega) (fun k h => absurd h (by omega))⟩
  · rw [decide_eq_true (ew.mpr ⟨z, hI⟩)] at k
    unfold w_VectorSolverModel_areSame_38
    rw [nI_clamp (n := w) (by omega), p2, p3, nI_sub (by omega)]
    exact ⟨vw, vw, fun _ => ⟨.inr rfl, k⟩, fun y => absurd (Int32.le_refl _) y⟩
  · have b1 := T.2.2 (tF c l w + r) (by omega)
    have b2 := T.2.2 (tF c l v + r) (by omega)
    unfold w_VectorSolverModel_areSame_38
    rw [nI_clamp (n := w) (by omega), nI_clamp (n := v) (by omega), p2, p3, q2, nI_sub (by omega), nI_leI (by omega) (by omega), nI_add, nI_add, nI_clamp (n := tF c l w + r) (by omega), nI_clamp (n := tF c l v + r) (by omega), b1.2, b2.2, sb_sb b1.1 b2.1]
    refine ⟨vw, vw, fun y => absurd y (by omega), fun _ => ⟨fun y => absurd y (by decide), fun _ => ⟨vw, vp_in_nI (by omega) (by decide), vv, vp_in_nI (by omega) (by decide), fun y x1 e1 => ?_, fun y x2 e2 => ?_⟩⟩⟩
    · exact z0 m _ (fun h => y ((ew.mp h).2 r hr))
    · rw [show (1 : Int32) = nI 1 from rfl, nI_add] at e2
      subst e2
      refine hs () (fun k' hk' => ?_)
      by_cases q' : k' = r
      · rw [q']; exact y
      · exact hI k' (by omega)
theorem rr_nf (R : RR B σ) (nm : nmB B) {n : Nat} (h : n ≤ bna B) (h0 : n ≠ 0) : xi σ 66 (n - 1) = nI (B.1 17 n) := by
  have := (R.2.2.2.1 (n - 1) (by omega)).1
  rw [show n - 1 + 1 = n by omega] at this
  exact this
theorem r_findN (H : okN c l N) (g : gB B) (S : RS c l N B i σ) (h5 : tK c l i = 5) (k : Q (.inl (some (.int (supI (fnm B (tW c l i)))))) σ) : wp_VectorSolverModel_findName Q σ := by
  have n1 := H.1
  have l1 := H.2.1
  have nm := g.2.2.1
  have n5 := g.1.1.2.2.2.2.2.1
  obtain ⟨T, P, R, e, f, x10, hi, -⟩ := id S
  obtain ⟨p1, p2, p3, p4⟩ := P.t hi
  have t2 := tok_2 (c := c) (l := l) (i := i) (by omega) (by omega)
  have vi : vp_in (nI i) 65537 := vp_in_nI (by omega) (by decide)
  have m3 := nm.2.2.2.1
  unfold wp_VectorSolverModel_findName
  rw [x10, nI_clamp (n := i) (by omega), p2, p3, nI_sub (by omega)]
  refine ⟨vi, vi, fun x1 e1 => ?_⟩
  subst e1
  have key := loop_i (σ := Unit) (fun m n _ => w_VectorSolverModel_findName_22 Q m (nI (tE c l i - tF c l i)) (nI n) σ) (fun n _ => ∀ n', n' < n → nmw B n' ≠ tW c l i) (bna B) (fun m _ hI => ?_) (fun m n _ hn hI hs => ?_)
  · exact ⟨_, key (bna B + 1) 0 () (by omega) (by omega) (fun n' h => absurd h (by omega))⟩
  · unfold w_VectorSolverModel_findName_22
    rw [R.1.2.2.1]
    refine ⟨fun _ => ?_, fun z => absurd (Int32.le_refl _) z⟩
    rw [fnm_none.mpr hI] at k
    exact k
  · have m1 := nm_le nm (show n ≤ n + 1 by omega) hn
    have m2 := nm_le nm (show n + 1 ≤ bna B by omega) (Nat.le_refl _)
    have nx : nmw B n ≠ tW c l i → ∀ n', n' < n + 1 → nmw B n' ≠ tW c l i := fun h n' hn' => by
      by_cases q : n' = n
      · rw [q]; exact h
      · exact hI n' (by omega)
    have ew : nmw B n = tW c l i ↔ B.1 17 (n + 1) - B.1 17 n = tE c l i - tF c l i ∧ ∀ k, k < tE c l i - tF c l i → B.1 16 (B.1 17 n + k) = c (tF c l i + k) := by
      unfold nmw
      rw [wtx_eq, tW_len]
      constructor
      · rintro ⟨h1, h⟩
        exact ⟨h1, fun k hk => by rw [h k hk]; exact tW_at (by rw [tW_len]; exact hk)⟩
      · rintro ⟨h1, h⟩
        exact ⟨h1, fun k hk => by rw [h k hk, tW_at (by rw [tW_len]; exact hk)]⟩
    have w122 : ∀ b : Bool, (b = true ↔ nmw B n = tW c l i) → w_VectorSolverModel_findName_122 Q (w_VectorSolverModel_findName_22 Q m) (nI (tE c l i - tF c l i)) (nI n) (bI b) σ := fun b hb => by
      unfold w_VectorSolverModel_findName_122
      refine ⟨fun z x2 e2 => ?_, fun z => ?_⟩
      · rw [show (1 : Int32) = nI 1 from rfl, nI_add] at e2
        subst e2
        refine hs () (nx (fun h => ?_))
        rw [hb.mpr h] at z
        exact absurd z (by decide)
      · have q : nmw B n = tW c l i := hb.mp (by
          cases b with
          | true => rfl
          | false => exact absurd rfl z)
        rw [fnm_eq hn q hI] at k
        exact k
    have w69 : ∀ f r, nmw B n ≠ tW c l i → w_VectorSolverModel_findName_69 Q (w_VectorSolverModel_findName_22 Q m) (f + 1) (nI (tE c l i - tF c l i)) (nI n) (nI (B.1 17 n)) 0 r σ := fun f r h => by
      have w := w122 false ⟨fun z => (by cases z), fun z => absurd z h⟩
      unfold w_VectorSolverModel_findName_69
      exact ⟨fun _ => w, fun _ => ⟨fun _ => w, fun z => absurd rfl z⟩⟩
    have w46 : w_VectorSolverModel_findName_46 Q (w_VectorSolverModel_findName_22 Q m) (nI (tE c l i - tF c l i)) (nI n) (nI (B.1 17 n)) σ := by
      unfold w_VectorSolverModel_findName_46
      rw [nI_clamp (n := n) (by omega), (R.2.2.2.1 n hn).1, nI_sub m1, nI_eq (by omega) (by omega)]
      refine ⟨vp_in_nI (by omega) (by decide), fun z => ⟨1, w69 0 _ (fun h => z (ew.mp h).1)⟩, fun z => ?_⟩
      have key2 := loop_i (σ := Unit) (fun f r _ => w_VectorSolverModel_findName_69 Q (w_VectorSolverModel_findName_22 Q m) (f + 1) (nI (tE c l i - tF c l i)) (nI n) (nI (B.1 17 n)) 1 (nI r) σ) (fun r _ => ∀ k, k < r → B.1 16 (B.1 17 n + k) = c (tF c l i + k)) (tE c l i - tF c l i) (fun f _ hI2 => ?_) (fun f r _ hr hI2 hs2 => ?_)
      · exact ⟨_, key2 (tE c l i - tF c l i + 1) 0 () (by omega) (by omega) (fun k h => absurd h (by omega))⟩
      · have w := w122 true ⟨fun _ => ew.mpr ⟨z, hI2⟩, fun _ => rfl⟩
        unfold w_VectorSolverModel_findName_69
        exact ⟨fun _ => w, fun y => absurd (Int32.le_refl _) y⟩
      · have bb := T.2.2 (tF c l i + r) (by omega)
        have tl := tok_let H h5 (show tF c l i ≤ tF c l i + r by omega) (by omega)
        have gl := g.2.2.2.2.1 (B.1 17 n + r) (by omega)
        unfold w_VectorSolverModel_findName_69
        rw [x10, nI_clamp (n := i) (by omega), p2, nI_leI (by omega) (by omega), nI_add, nI_add, nI_clamp (n := B.1 17 n + r) (by omega), nI_clamp (n := tF c l i + r) (by omega), R.2.2.2.2.1 _ (by omega), bb.2, sb_n tl.1, nI_eq (by omega) (by omega)]
        refine ⟨fun y => absurd y (by omega), fun _ => ⟨fun y => absurd y (by decide), fun _ => ⟨vp_in_nI (by omega) (by decide), vi, vp_in_nI (by omega) (by decide), fun y x3 e3 => ?_, fun y x4 e4 => ?_⟩⟩⟩
        · exact w69 f _ (fun h => y ((ew.mp h).2 r hr))
        · rw [show (1 : Int32) = nI 1 from rfl, nI_add] at e4
          subst e4
          refine hs2 () (fun k' hk' => ?_)
          by_cases q' : k' = r
          · rw [q']; exact y
          · exact hI2 k' (by omega)
    unfold w_VectorSolverModel_findName_22
    rw [R.1.2.2.1, nI_leI (by omega) (by omega), show (0 : Int32) = nI 0 from rfl, nI_eq (by omega) (by decide)]
    refine ⟨fun z => absurd z (by omega), fun _ => ⟨fun z => ?_, fun z => ?_⟩⟩
    · rw [show (1 : Int32) = nI 1 from rfl, nI_sub (by omega), nI_clamp (n := n - 1) (by omega), rr_nf R nm (by omega) z]
      exact ⟨vp_in_nI (by omega) (by decide), w46⟩
    · have e17 : B.1 17 n = 0 := by rw [z]; exact nm.2.1
      rw [e17] at w46
      exact w46
theorem r_used (R : RR B σ) (g : gB B) (k : Q (.inl (some (.int (nI (B.1 17 (bna B)))))) σ) : wp_VectorSolverModel_used Q σ := by
  have nm := g.2.2.1
  have n5 := g.1.1.2.2.2.2.2.1
  unfold wp_VectorSolverModel_used
  rw [R.1.2.2.1, show (0 : Int32) = nI 0 from rfl, nI_eq (by omega) (by decide)]
  refine ⟨fun z => ?_, fun z => ?_⟩
  · rw [show (1 : Int32) = nI 1 from rfl, nI_sub (by omega), nI_clamp (n := bna B - 1) (by omega), rr_nf R nm (Nat.le_refl _) z]
    exact ⟨vp_in_nI (by omega) (by decide), k⟩
  · have e17 : B.1 17 (bna B) = 0 := by rw [z]; exact nm.2.1
    rw [e17] at k
    exact k
theorem rix_neg {r : Option Nat} (hr : ∀ m, r = some m → m < 47) : (0 ≤ rix r) ↔ r ≠ none := by
  have k1 : ∀ m, m < 47 → (0 : Int32) ≤ nI (ridx m) := by decide +kernel
  cases r with
  | none => exact ⟨fun h => absurd h (by decide), fun h => absurd rfl h⟩
  | some m => exact ⟨fun _ => by simp, fun _ => k1 m (hr m rfl)⟩
theorem sup_neg {r : Option Nat} (hr : ∀ m, r = some m → m < 500) : (0 ≤ supI r) ↔ r ≠ none := by
  cases r with
  | none => exact ⟨fun h => absurd h (by decide), fun h => absurd rfl h⟩
  | some m =>
    refine ⟨fun _ => by simp, fun _ => ?_⟩
    have := hr m rfl
    show (0 : Int32) ≤ nI m
    rw [show (0 : Int32) = nI 0 from rfl, nI_leI (by decide) (by omega)]
    exact Nat.zero_le _
theorem n_fresh (h : RX σ) (k : Q (.inl (some (.int (xi σ 50 10)))) σ) : wp_VectorSolverModel_freshName Q σ := by
  unfold wp_VectorSolverModel_freshName
  refine n_need h ?_
  rw [xqi_i]
  exact ⟨fun _ => k, fun z => absurd rfl z⟩
theorem r_fresh (H : okN c l N) (g : gB B) (S : RS0 c l N B j σ) (kf : ∀ e σ' x, pNew c l B j = .error e → RFl B e σ σ' → Q (.inl (some (.int x))) σ') (ko : ∀ σ', pNew c l B j = .ok () → RS c l N B j σ' → oE [10] σ σ' → Q (.inl (some (.int (nI j)))) σ') : wp_VectorSolverModel_freshName Q σ := by
  have n1 := H.1
  have l1 := H.2.1
  have nm := g.2.2.1
  have n5 := g.1.1.2.2.2.2.2.1
  have m3 := nm.2.2.2.1
  unfold wp_VectorSolverModel_freshName
  refine r_need (k0 := 5) H (by decide) S (fun e σ' h f => ?_) (fun s1 h1 S1 o1 => ?_)
  · rw [xqi_i]
    exact ⟨fun _ => kf e σ' _ (eb_er h) f, fun z => absurd rfl z⟩
  rw [xqi_i]
  refine ⟨fun z => absurd z (by decide), fun _ => ?_⟩
  have k5 := pX_i h1
  have hj := S1.2.2.2.2.2.2.1
  obtain ⟨p1, p2, p3, p4⟩ := S1.2.1.t hj
  have x10 := S1.2.2.2.2.2.1
  have vj : vp_in (nI j) 65537 := vp_in_nI (by omega) (by decide)
  have t2 := tok_2 (c := c) (l := l) (i := j) (by omega) (by omega)
  have u : pNew c l B j = if tR c l j ≠ none ∨ fnm B (tW c l j) ≠ none then .error (6, tF c l j) else if bna B < 500 ∧ B.1 17 (bna B) + (tW c l j).length ≤ 65536 then .ok () else .error (11, tF c l j) := eb_ok h1
  have w33 : (tR c l j ≠ none ∨ fnm B (tW c l j) ≠ none) → w_VectorSolverModel_freshName_33 Q s1 := fun q => by
    unfold w_VectorSolverModel_freshName_33 w_VectorSolverModel_freshName_34
    rw [x10, nI_clamp (n := j) (by omega), p2]
    refine ⟨vj, r_wantG (B := B) (ek := 6) (ep := tF c l j) S1.2.2.1 S1.2.2.2.1 x10 (by omega) rfl rfl rfl (by decide) (fun σ' f o' => ?_)⟩
    rw [xqi_i]
    have hx := f.2.2.2.2
    have fe := fun x => kf (6, tF c l j) σ' x (u.trans (if_pos q)) (RFl.e o1 (by decide) f)
    have w93 : ∀ t1, w_VectorSolverModel_freshName_94 Q t1 σ' := fun t1 => by
      unfold w_VectorSolverModel_freshName_94
      refine ⟨hx.v, n_want hx.1 ?_⟩
      rw [xqi_i]
      exact fe _
    refine ⟨fun _ => w93 _, fun _ => ?_⟩
    refine r_used (S1.2.2.1.e o' (by decide)) g ?_
    rw [xqi_i]
    exact ⟨hx.v, hx.v, fun _ => w93 _, fun _ => w93 _⟩
  have w34 : ¬ (tR c l j ≠ none ∨ fnm B (tW c l j) ≠ none) → w_VectorSolverModel_freshName_34 Q 1 s1 := fun q => by
    rw [if_neg q] at u
    unfold w_VectorSolverModel_freshName_34
    refine ⟨S1.v H, r_wantT S1.2.2.2.1 (by decide) ?_⟩
    rw [xqi_i]
    have w93 : ¬ (bna B < 500 ∧ B.1 17 (bna B) + (tW c l j).length ≤ 65536) → w_VectorSolverModel_freshName_93 Q s1 := fun y => by
      unfold w_VectorSolverModel_freshName_93 w_VectorSolverModel_freshName_94
      rw [x10, nI_clamp (n := j) (by omega), p2]
      refine ⟨vj, r_wantF (B := B) (ek := 11) (ep := tF c l j) S1.2.2.1 S1.2.2.2.1 x10 (by omega) rfl rfl rfl (by decide) (fun σ' f => ?_)⟩
      rw [xqi_i]
      exact kf (11, tF c l j) σ' _ (u.trans (if_neg y)) (RFl.e o1 (by decide) f)
    rw [S1.2.2.1.1.2.2.1, show (500 : Int32) = nI 500 from rfl, nI_leI (by decide) (by omega)]
    refine ⟨fun z => w93 (by omega), fun z => ?_⟩
    refine r_used S1.2.2.1 g ?_
    rw [xqi_i, x10, nI_clamp (n := j) (by omega), p2, p3, nI_add, nI_sub (by omega), show (65536 : Int32) = nI 65536 from rfl, nI_ltI (by decide) (by omega)]
    have tl := tW_len (c := c) (l := l) (i := j)
    refine ⟨vj, vj, fun y => w93 (by omega), fun y => ?_⟩
    unfold w_VectorSolverModel_freshName_94
    refine ⟨S1.v H, r_wantT S1.2.2.2.1 (by decide) ?_⟩
    rw [xqi_i, x10]
    exact ko s1 (u.trans (if_pos (by omega))) S1 o1
  rw [x10, nI_clamp (n := j) (by omega), p4, rix_neg (fun m h => tR_lt h)]
  refine ⟨vj, fun z => w33 (.inl z), fun z => ?_⟩
  refine r_findN H g S1 k5 ?_
  rw [xqi_i, sup_neg (fun m h => by have := (fnm_some h).1; omega)]
  exact ⟨fun y => w33 (.inr y), fun y => w34 (fun q => by rcases q with q | q; exact z q; exact y q)⟩
end RNM
