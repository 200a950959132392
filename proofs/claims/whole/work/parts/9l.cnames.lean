/-! THE CLASS READS: names -/
theorem nm_le {B : Bk} (n : nmB B) {a b : Nat} (h : a ≤ b) (hb : b ≤ bna B) : B.1 17 a ≤ B.1 17 b := by
  obtain ⟨d, rfl⟩ : ∃ d, b = a + d := ⟨b - a, by omega⟩
  clear h
  induction d with
  | zero => exact Nat.le_refl _
  | succ d ih =>
    have := ih (by omega)
    have := n.2.2.1 (a + d) (by omega)
    rw [show a + (d + 1) = a + d + 1 by omega]
    omega
theorem rc_nf {B : Bk} {σ : xS} (R : RC B σ) {n : Nat} (h : n ≤ bna B) : xi σ 17 n = nI (B.1 17 n) := R.2.1 17 n (Nat.lt_succ_of_le h)
theorem rc_let {B : Bk} {σ : xS} (R : RC B σ) {n : Nat} (h : n < B.1 17 (bna B)) : xi σ 16 n = nI (B.1 16 n) := R.2.1 16 n h
theorem rc_nt {B : Bk} {σ : xS} (R : RC B σ) {n : Nat} (h : n < bna B) : xi σ 18 n = nI (B.1 18 n) := R.2.1 18 n h
section CN
variable {c : Nat → Nat} {l N : Nat} {B : Bk} {top nb i j : Nat} {σ : xS} {Q : xO → xS → Prop}
theorem tok_let (H : okN c l N) (h5 : tK c l i = 5) {k : Nat} (h1 : tF c l i ≤ k) (h2 : k < tE c l i) : c k < 128 ∧ k < l := by
  have t := tok_2 (c := c) (l := l) (i := i) (by omega) (by omega)
  exact ⟨(isW_lt (H.2.2.1 k (by omega)) (t.2.2.2.2.2 k h1 h2)).1, by omega⟩
theorem v_isName {n : Nat} (H : okN c l N) (g : gB B) (S : CS c l N B top nb i σ) (h5 : tK c l i = 5) (hn : n < bna B) (hl : B.1 17 (n + 1) - B.1 17 n = tE c l i - tF c l i) (k : Q (.inl (some (.int (bI (decide (nmw B n = tW c l i)))))) σ) : wp_Book_isName Q σ (nI n) := by
  have nm := g.2.2.1
  have n5 := g.1.1.2.2.2.2.2.1
  obtain ⟨a, b, R, e, f, g', hx, hi, c1, c2, c3, c4⟩ := S
  have t2 := tok_2 (c := c) (l := l) (i := i) (by omega) (by omega)
  have l1 := H.2.1
  have m1 := nm_le nm (show n ≤ n + 1 by omega) hn
  have m2 := nm_le nm (show n + 1 ≤ bna B by omega) (Nat.le_refl _)
  have m3 := nm.2.2.2.1
  unfold wp_Book_isName
  rw [c2]
  intro x1 e1
  subst e1
  rw [nI_clamp (by omega), rc_nf R (by omega)]
  refine ⟨vp_in_nI (by omega) (by decide), fun x2 e2 => ?_⟩
  subst e2
  have ew : nmw B n = tW c l i ↔ ∀ k, k < tE c l i - tF c l i → B.1 16 (B.1 17 n + k) = c (tF c l i + k) := by
    unfold nmw
    rw [wtx_eq, tW_len]
    constructor
    · rintro ⟨_, h⟩ k hk
      rw [h k hk]
      exact tW_at (by rw [tW_len]; exact hk)
    · intro h
      refine ⟨hl, fun k hk => ?_⟩
      rw [h k hk, tW_at (by rw [tW_len]; exact hk)]
  have key := loop_i (σ := Unit) (fun m k _ => w_Book_isName_13 Q m (nI n) (nI (tF c l i + k)) (nI (B.1 17 n + k)) σ) (fun k _ => ∀ k', k' < k → B.1 16 (B.1 17 n + k') = c (tF c l i + k')) (tE c l i - tF c l i) (fun m _ hI => ?_) (fun m k' _ hk hI hs => ?_)
  · exact ⟨_, key (tE c l i - tF c l i + 1) 0 () (by omega) (by omega) (fun k' h => absurd h (by omega))⟩
  · unfold w_Book_isName_13
    rw [show (1 : Int32) = nI 1 from rfl, nI_add, nI_clamp (by omega), rc_nf R (by omega)]
    refine ⟨vp_in_nI (by omega) (by decide), fun _ => ?_, fun z => absurd ((nI_leI (by omega) (by omega)).mpr (by omega)) z⟩
    rw [decide_eq_true (ew.mpr hI)] at k
    exact k
  · have bb := a.2.2.1 (tF c l i + k') (by omega)
    have tl := tok_let H h5 (show tF c l i ≤ tF c l i + k' by omega) (by omega)
    have gl := g.2.2.2.2.1 (B.1 17 n + k') (by omega)
    unfold w_Book_isName_13
    rw [show (1 : Int32) = nI 1 from rfl, nI_add, nI_clamp (n := n + 1) (by omega), rc_nf R (by omega), nI_clamp (n := B.1 17 n + k') (by omega), nI_clamp (n := tF c l i + k') (by omega), rc_let R (by omega), bb.2, sb_n tl.1, nI_eq (by omega) (by omega)]
    refine ⟨vp_in_nI (by omega) (by decide), fun z => absurd ((nI_leI (by omega) (by omega)).mp z) (by omega), fun _ => ⟨vp_in_nI (by omega) (by decide), vp_in_nI (by omega) (by decide), fun z x3 e3 x4 e4 => ?_, fun z => ?_⟩⟩
    · rw [nI_add] at e3 e4
      subst e3 e4
      refine hs () (fun k2 h2 => ?_)
      by_cases q : k2 = k'
      · rw [q]; exact z
      · exact hI k2 (by omega)
    · rw [decide_eq_false (fun y => z (ew.mp y k' hk))] at k
      exact k
theorem v_findName (H : okN c l N) (g : gB B) (S : CS c l N B top nb i σ) (h5 : tK c l i = 5) (k : Q (.inl (some (.int (supI (fnm B (tW c l i)))))) σ) : wp_Book_findName Q σ := by
  have nm := g.2.2.1
  have n5 := g.1.1.2.2.2.2.2.1
  have S0 := S
  obtain ⟨a, b, R, e, f, g', hx, hi, c1, c2, c3, c4⟩ := S
  have t2 := tok_2 (c := c) (l := l) (i := i) (by omega) (by omega)
  have l1 := H.2.1
  unfold wp_Book_findName
  have key := loop_i (σ := Unit) (fun m n _ => w_Book_findName_2 Q m (nI n) σ) (fun n _ => ∀ n', n' < n → nmw B n' ≠ tW c l i) (bna B) (fun m _ hI => ?_) (fun m n _ hn hI hs => ?_)
  · exact ⟨_, key (bna B + 1) 0 () (by omega) (by omega) (fun n' h => absurd h (by omega))⟩
  · unfold w_Book_findName_2
    rw [R.1.2.2.1]
    refine ⟨fun _ => ?_, fun z => absurd (Int32.le_refl _) z⟩
    rw [fnm_none.mpr hI] at k
    exact k
  · have m1 := nm_le nm (show n ≤ n + 1 by omega) hn
    have m2 := nm_le nm (show n + 1 ≤ bna B by omega) (Nat.le_refl _)
    have m3 := nm.2.2.2.1
    have nx : nmw B n ≠ tW c l i → ∀ n', n' < n + 1 → nmw B n' ≠ tW c l i := fun h n' hn' => by
      by_cases q : n' = n
      · rw [q]; exact h
      · exact hI n' (by omega)
    unfold w_Book_findName_2
    rw [R.1.2.2.1, c2, c3, show (1 : Int32) = nI 1 from rfl, nI_add, nI_clamp (n := n + 1) (by omega), nI_clamp (n := n) (by omega), rc_nf R (by omega), rc_nf R (by omega), nI_sub m1, nI_sub (by omega)]
    refine ⟨fun z => absurd ((nI_leI (by omega) (by omega)).mp z) (by omega), fun _ => ⟨vp_in_nI (by omega) (by decide), vp_in_nI (by omega) (by decide), fun x1 e1 => ?_⟩⟩
    subst e1
    rw [nI_eq (by omega) (by omega)]
    refine ⟨fun z x2 e2 => ?_, fun z => ?_⟩
    · subst e2
      refine hs () (nx (fun h => z ?_))
      have := congrArg List.length h
      unfold nmw at this
      rw [wtx_len, tW_len] at this
      exact this
    · refine v_isName H g S0 h5 hn z ?_
      rw [xqi_i]
      refine ⟨fun y x5 e5 => ?_, fun y => ?_⟩
      · subst e5
        exact hs () (nx (of_decide_eq_false ((bI_0 _).mp y)))
      · have q : nmw B n = tW c l i := by
          apply Classical.byContradiction
          intro h
          exact y ((bI_0 _).mpr (decide_eq_false h))
        rw [fnm_eq hn q hI] at k
        exact k
theorem v_newName (H : okN c l N) (g : gB B) (S : CS0 c l N B top nb j σ) (kf : ∀ e σ', pNew c l B j = .error e → FL B e σ σ' → Q (.inr 0) σ') (ko : ∀ σ', pNew c l B j = .ok () → CS c l N B top nb j σ' → oJ jS σ σ' → Q (.inl none) σ') : wp_Reader_expectNewName Q σ := by
  have n5 := g.1.1.2.2.2.2.2.1
  have m3 := g.2.2.1.2.2.2.1
  unfold wp_Reader_expectNewName
  refine v_expect (k0 := 5) H (by decide) S (fun e σ' h f => ?_) (fun σ1 h1 S1 o1 => ?_)
  · rw [xqv_e]
    exact kf e σ' (eb_er h) f
  · rw [xqv_v]
    have k5 := pX_i h1
    have t2 := tok_2 (c := c) (l := l) (i := j) (by omega) (by omega)
    have l1 := H.2.1
    have ca := S1.2.2.2.2.2.2.2.2
    have R1 := S1.2.2.1
    have u1 : pNew c l B j = if tR c l j ≠ none ∨ fnm B (tW c l j) ≠ none then .error (6, tF c l j) else if bna B < 500 ∧ B.1 17 (bna B) + (tW c l j).length ≤ 65536 then .ok () else .error (11, tF c l j) := eb_ok h1
    have w31 : (tR c l j ≠ none ∨ fnm B (tW c l j) ≠ none) → w_Reader_expectNewName_31 Q σ1 := fun q => by
      unfold w_Reader_expectNewName_31
      refine v_fail (ek := 6) (ep := tF c l j) R1 S1.2.2.2.2.2.2.1 rfl ca.2.1 (fun σ' f => ?_)
      rw [xqi_e]
      exact kf _ σ' (u1.trans (if_pos q)) (FL.j o1 f)
    have w48 : ¬ (tR c l j ≠ none ∨ fnm B (tW c l j) ≠ none) → w_Reader_expectNewName_48 Q σ1 := fun q => by
      rw [if_neg q, tW_len] at u1
      unfold w_Reader_expectNewName_48
      rw [ca.2.1, ca.2.2.1, nI_sub (by omega)]
      unfold wp_Book_hasRoomForName
      rw [R1.1.2.2.1, nI_clamp (by omega), rc_nf R1 (Nat.le_refl _), show (500 : Int32) = nI 500 from rfl, show (65536 : Int32) = nI 65536 from rfl, nI_sub m3, nI_leI (by decide) (by omega), nI_ltI (by omega) (by omega)]
      have no : ¬ (bna B < 500 ∧ B.1 17 (bna B) + (tE c l j - tF c l j) ≤ 65536) → wp_Text_fail (xqi (fun r8 u7 => Q (.inl none) u7) (fun n u => Q (.inr n) u)) σ1 11 (xi σ1 1 10) := fun y => by
        refine v_fail (ek := 11) (ep := tF c l j) R1 S1.2.2.2.2.2.2.1 rfl ca.2.1 (fun σ' f => ?_)
        rw [xqi_e]
        exact kf _ σ' (u1.trans (if_neg y)) (FL.j o1 f)
      refine ⟨fun z => ?_, fun z => ⟨vp_in_nI (by omega) (by decide), fun y => ?_, fun y => ?_⟩⟩
      · rw [xqi_i]
        exact ⟨fun n => absurd rfl n, fun _ => no (by omega)⟩
      · rw [xqi_i]
        exact ⟨fun n => absurd rfl n, fun _ => no (by omega)⟩
      · rw [xqi_i]
        exact ⟨fun _ => ko σ1 (u1.trans (if_pos ⟨by omega, by omega⟩)) S1 o1, fun n => absurd n (by decide)⟩
    rw [ca.2.2.2]
    cases er : tR c l j with
    | some m =>
      have ml := tR_lt er
      have ne : ¬ supI (some m) = -1 := by
        have : ∀ n, n < 47 → ¬ nI n = (-1 : Int32) := by decide +kernel
        exact this m ml
      exact ⟨fun _ => w31 (.inl (by rw [er]; simp)), fun z => absurd z ne⟩
    | none =>
      refine ⟨fun z => absurd rfl z, fun _ => ?_⟩
      refine v_findName H g S1 k5 ?_
      rw [xqi_i]
      cases ef : fnm B (tW c l j) with
      | none => exact ⟨fun _ => w48 (by rw [er, ef]; simp), fun z => absurd rfl z⟩
      | some m =>
        have ml := (fnm_some ef).1
        have ne : ¬ supI (some m) = -1 := by
          have : ∀ n, n < 500 → ¬ nI n = (-1 : Int32) := by decide +kernel
          exact this m (by omega)
        exact ⟨fun z => absurd z ne, fun _ => w31 (.inr (by rw [ef]; simp))⟩
theorem v_addName {t : Nat} (H : okN c l N) (T : TB σ c l) (R : RC B σ) (h5 : tK c l i = 5) (hn : bna B < 500) (hr : B.1 17 (bna B) + (tW c l i).length ≤ 65536) (k : ∀ σ', RC (addNm B (tW c l i) t) σ' → oB σ σ' → Q (.inl none) σ') : wp_Book_addName Q σ (nI (tF c l i)) (nI (tE c l i)) (nI t) := by
  have t2 := tok_2 (c := c) (l := l) (i := i) (by omega) (by omega)
  have l1 := H.2.1
  rw [tW_len] at hr
  unfold wp_Book_addName
  rw [R.1.2.2.1, nI_clamp (by omega), rc_nf R (Nat.le_refl _)]
  refine ⟨vp_in_nI (by omega) (by decide), fun x1 e1 => ?_⟩
  subst e1
  have key := loop_i (σ := xS) (fun m q s => w_Book_addName_14 Q m (nI (tE c l i)) (nI t) (nI (B.1 17 (bna B) + q)) (nI (tF c l i + q)) s) (fun q s => oB σ s ∧ (∀ a b, a ≠ 16 → xi s a b = xi σ a b) ∧ (∀ a b, xl s a b = xl σ a b) ∧ (∀ b, xi s 16 b = if B.1 17 (bna B) ≤ b ∧ b < B.1 17 (bna B) + q then nI (c (tF c l i + (b - B.1 17 (bna B)))) else xi σ 16 b)) (tE c l i - tF c l i) (fun m s hI => ?_) (fun m q s hq hI hs => ?_)
  · exact ⟨_, key (tE c l i - tF c l i + 1) 0 σ (by omega) (by omega) ⟨oB.refl _, fun _ _ _ => rfl, fun _ _ => rfl, fun b => by rw [if_neg (by omega)]⟩⟩
  · obtain ⟨I1, I2, I4, I3⟩ := hI
    have en : xi s 5 4 = nI (bna B) := by rw [I2 5 4 (by decide)]; exact R.1.2.2.1
    unfold w_Book_addName_14
    rw [en, nI_clamp (by omega)]
    refine ⟨fun _ => ⟨vp_in_nI (by omega) (by decide), fun s2 e2 s3 e3 => ?_⟩, fun z => absurd ((nI_leI (by omega) (by omega)).mpr (by omega)) z⟩
    have e4' : xi s2 5 4 = nI (bna B) := by rw [e2, xi_pi, if_neg (by omega)]; exact en
    rw [e4', show (1 : Int32) = nI 1 from rfl, nI_add] at e3
    have e5' : xi s3 5 4 = nI (bna B + 1) := by rw [e3, xi_pi, if_pos ⟨rfl, rfl⟩]
    rw [e5', nI_clamp (by omega)]
    refine ⟨vp_in_nI (by omega) (by decide), fun s4 e4 => ?_⟩
    have o4 : oB σ s4 := by rw [e4, e3, e2]; exact I1.trans (((oB.pi _ _ _ _ (by decide)).trans (oB.pi _ _ _ _ (by decide))).trans (oB.pi _ _ _ _ (by decide)))
    have pt : ∀ a b, ¬ (a = 18 ∧ b = bna B) → ¬ (a = 5 ∧ b = 4) → ¬ (a = 17 ∧ b = bna B + 1) → xi s4 a b = xi s a b := fun a b h1 h2 h3 => by rw [e4, xi_pi, if_neg h3, e3, xi_pi, if_neg h2, e2, xi_pi, if_neg h1]
    have l4 : ∀ a b, xl s4 a b = xl σ a b := fun a b => by rw [e4, xl_pi, e3, xl_pi, e2, xl_pi]; exact I4 a b
    have w1 : xi s4 18 (bna B) = nI t := by rw [e4, xi_pi, if_neg (by omega), e3, xi_pi, if_neg (by omega), e2, xi_pi, if_pos ⟨rfl, rfl⟩]
    have w2 : xi s4 5 4 = nI (bna B + 1) := by rw [e4, xi_pi, if_neg (by omega)]; exact e5'
    have w3 : xi s4 17 (bna B + 1) = nI (B.1 17 (bna B) + (tE c l i - tF c l i)) := by rw [e4, xi_pi, if_pos ⟨rfl, rfl⟩]
    obtain ⟨⟨r1, r2, r3, r4, r5⟩, r6, r7⟩ := R
    have em : bma (addNm B (tW c l i) t) = bma B := aN_k (by decide) 9
    have eh : bth (addNm B (tW c l i) t) = bth B := (aN_5 8).trans (if_neg (by decide))
    have ea : bas (addNm B (tW c l i) t) = bas B := (aN_5 10).trans (if_neg (by decide))
    have enn : bna (addNm B (tW c l i) t) = bna B + 1 := (aN_5 4).trans (if_pos rfl)
    have ef : bfi (addNm B (tW c l i) t) (bma B) = bfi B (bma B) := aN_k (by decide) _
    refine k s4 ⟨⟨?_, ?_, ?_, ?_, ?_⟩, fun k j hj => ?_, fun t' ht => ?_⟩ o4
    · rw [pt 6 9 (by omega) (by omega) (by omega), I2 6 9 (by decide), em]; exact r1
    · rw [pt 6 10 (by omega) (by omega) (by omega), I2 6 10 (by decide)]; exact r2.trans (congrArg nI (aN_k (by decide) 10).symm)
    · rw [w2, enn]
    · rw [pt 5 8 (by omega) (by omega) (by omega), I2 5 8 (by decide), eh]; exact r4
    · rw [pt 5 10 (by omega) (by omega) (by omega), I2 5 10 (by decide), ea]; exact r5
    · have hj := bk_cs hj
      rw [em, eh, ea, enn, ef, aN_17, if_pos rfl, tW_len] at hj
      have old : ∀ k, k ≠ 16 → k ≠ 17 → k ≠ 18 → k ≠ 5 → j < bkB B k → xi s4 k j = nI ((addNm B (tW c l i) t).1 k j) := fun k h16 h17 h18 h5' hb => by
        rw [pt k j (by omega) (by omega) (by omega), I2 k j h16, aN_k ⟨h5', h16, h17, h18⟩]
        exact r6 k j hb
      rcases hj with ⟨rfl, h⟩ | ⟨rfl, h⟩ | ⟨rfl, h⟩ | ⟨rfl, h⟩ | ⟨rfl, h⟩ | ⟨rfl, h⟩ | ⟨rfl, h⟩ | ⟨rfl, h⟩ | ⟨rfl, h⟩ | ⟨rfl, h⟩ | ⟨rfl, h⟩ | ⟨rfl, h⟩ | ⟨rfl, h⟩ | ⟨rfl, h⟩
      case inr.inr.inr.inr.inr.inr.inr.inl =>
        rw [pt _ _ (by omega) (by omega) (by omega), I3, aN_16, tW_len]
        by_cases z : B.1 17 (bna B) ≤ j ∧ j < B.1 17 (bna B) + (tE c l i - tF c l i)
        · rw [if_pos z, if_pos z, tW_at (by rw [tW_len]; omega)]
        · rw [if_neg z, if_neg z]
          exact r6 16 j (show j < B.1 17 (bna B) by omega)
      case inr.inr.inr.inr.inr.inr.inr.inr.inl =>
        rw [aN_17]
        by_cases z : j = bna B + 1
        · rw [if_pos z, z, w3, tW_len]
        · rw [if_neg z, pt _ _ (by omega) (by omega) (by omega), I2 _ _ (by decide)]
          exact r6 17 j (show j < bna B + 1 by omega)
      case inr.inr.inr.inr.inr.inr.inr.inr.inr.inl =>
        rw [aN_18]
        by_cases z : j = bna B
        · rw [if_pos z, z, w1]
        · rw [if_neg z, pt _ _ (by omega) (by omega) (by omega), I2 _ _ (by decide)]
          exact r6 18 j (show j < bna B by omega)
      all_goals exact old _ (by decide) (by decide) (by decide) (by decide) h
    · rw [em] at ht
      rw [l4, l4]
      have := r7 t' ht
      refine ⟨this.1, this.2.trans ?_⟩
      unfold bful
      rw [show bso (addNm B (tW c l i) t) t' = bso B t' from aN_k (by decide) t']
  · obtain ⟨I1, I2, I4, I3⟩ := hI
    have tl := tok_let H h5 (show tF c l i ≤ tF c l i + q by omega) (by omega)
    have bb : xi s 2 (tF c l i + q) = nI (c (tF c l i + q)) := by rw [I2 2 _ (by decide), (T.2.2.1 _ tl.2).2, sb_n tl.1]
    have nb' : vp_nar .byte (nI (c (tF c l i + q))) = nI (c (tF c l i + q)) := by
      have := nar_sb (b := c (tF c l i + q)) (by omega)
      rw [sb_n tl.1] at this
      exact this
    unfold w_Book_addName_14
    rw [nI_clamp (by omega), nI_clamp (by omega), bb, nb', nI_leI (by omega) (by omega)]
    refine ⟨fun z => absurd z (by omega), fun _ => ⟨vp_in_nI (by omega) (by decide), vp_in_nI (by omega) (by decide), fun s5 e5 x6 e6 x7 e7 => ?_⟩⟩
    rw [show (1 : Int32) = nI 1 from rfl, nI_add] at e6 e7
    subst e6 e7
    refine hs s5 ⟨I1.trans (by rw [e5]; exact oB.pi _ _ _ _ (by decide)), fun a b h => by rw [e5, xi_pi, if_neg (fun z => h z.1)]; exact I2 a b h, fun a b => by rw [e5, xl_pi]; exact I4 a b, fun b => ?_⟩
    rw [e5, xi_pi]
    by_cases z : b = B.1 17 (bna B) + q
    · rw [if_pos ⟨rfl, z⟩, if_pos (by omega), z, Nat.add_sub_cancel_left]
    · rw [if_neg (fun y => z y.2), I3]
      by_cases y : B.1 17 (bna B) ≤ b ∧ b < B.1 17 (bna B) + q
      · rw [if_pos y, if_pos (by omega)]
      · rw [if_neg y, if_neg (by omega)]
end CN
