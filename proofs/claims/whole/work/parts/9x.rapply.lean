/-! THE REFERENCE READS: an application -/
def AP (B : Bk) (p h : Nat) (as : List Nat) (op hi lo beg : Nat) (σ : xS) : Prop := (xi σ 50 29 = nI p ∧ p < 64) ∧ (xi σ 50 36 = nI (h + as.length) ∧ h + as.length ≤ 2600 ∧ as.length ≤ 40) ∧ xi σ 75 p = nI as.length ∧ xi σ 72 p = nI (opr op) ∧ xi σ 71 p = nI beg ∧ xi σ 73 p = nI hi ∧ xi σ 74 p = nI lo ∧ (∀ k, k < as.length → xi σ 76 (h + k) = nI (as.getD k 0)) ∧ RR B σ ∧ gB B ∧ ∀ x ∈ as, x < bma B
section RAP
variable {B : Bk} {p h : Nat} {as : List Nat} {op hi lo beg i j : Nat} {σ σ' : xS} {Q : xO → xS → Prop}
theorem AP.e {J : List Nat} (A : AP B p h as op hi lo beg σ) (o : oE J σ σ') (hJ : ∀ a ∈ [29, 36, 11, 21, 23, 27, 42, 44, 45], a ∉ J) : AP B p h as op hi lo beg σ' := by
  obtain ⟨⟨a1, a2⟩, ⟨a3, a4⟩, a5, a6, a7, a8, a9, a10, a11, a12⟩ := A
  exact ⟨⟨(o.at (hJ 29 (by decide))).trans a1, a2⟩, ⟨(o.at (hJ 36 (by decide))).trans a3, a4⟩, (o.ne (by decide)).trans a5, (o.ne (by decide)).trans a6, (o.ne (by decide)).trans a7, (o.ne (by decide)).trans a8, (o.ne (by decide)).trans a9, fun k hk => (o.ne (by decide)).trans (a10 k hk), a11.e o (fun a ha => hJ a (by revert a; decide)), a12⟩
theorem r_at (A : AP B p h as op hi lo beg σ) (hi' : i < as.length) : vp_in (xi σ 50 29) 64 ∧ (xi σ 50 36 - xi σ 75 (xi σ 50 29).toNatClampNeg) + nI i = nI (h + i) ∧ vp_in (nI (h + i)) 2600 ∧ (nI (h + i)).toNatClampNeg = h + i ∧ xi σ 76 (h + i) = nI (as.getD i 0) ∧ vp_in (nI (as.getD i 0)) 2000 ∧ (nI (as.getD i 0)).toNatClampNeg = as.getD i 0 ∧ as.getD i 0 < bma B := by
  obtain ⟨⟨a1, a2⟩, ⟨a3, a4, a4'⟩, a5, a6, a7, a8, a9, a10, a11, a12, a13⟩ := A
  have m := a12.1.1.1
  have al := a13 _ (getD_mem hi')
  rw [a1, nI_clamp (n := p) (by omega), a3, a5, nI_sub (by omega), Nat.add_sub_cancel, nI_add]
  exact ⟨vp_in_nI (by omega) (by decide), rfl, vp_in_nI (by omega) (by decide), nI_clamp (by omega), a10 i hi', vp_in_nI (by omega) (by decide), nI_clamp (by omega), al⟩
theorem r_ix (A : AP B p h as op hi lo beg σ) (hi' : i < as.length) (k : Q (.inl (some (.int (nI (bso B (as.getD i 0) / 128))))) σ) : wp_VectorSolverModel_indexOf Q σ (nI i) := by
  obtain ⟨b1, b2, b3, b4, b5, b6, b7, b8⟩ := r_at A hi'
  unfold wp_VectorSolverModel_indexOf
  rw [b2, b4, b5, b7, rr_ix A.2.2.2.2.2.2.2.2.1 b8]
  exact ⟨b1, b3, b6, k⟩
theorem r_wd (A : AP B p h as op hi lo beg σ) (hi' : i < as.length) (k : Q (.inl (some (.int (nI (bso B (as.getD i 0) % 128))))) σ) : wp_VectorSolverModel_widthOf Q σ (nI i) := by
  obtain ⟨b1, b2, b3, b4, b5, b6, b7, b8⟩ := r_at A hi'
  unfold wp_VectorSolverModel_widthOf
  rw [b2, b4, b5, b7, rr_wi A.2.2.2.2.2.2.2.2.1 b8]
  exact ⟨b1, b3, b6, k⟩
theorem AP.so (A : AP B p h as op hi lo beg σ) (hi' : i < as.length) : okS (bso B (as.getD i 0)) := wf_so A.2.2.2.2.2.2.2.2.2.1.1 (A.2.2.2.2.2.2.2.2.2.2 _ (getD_mem hi'))
theorem r_isVec (A : AP B p h as op hi lo beg σ) (hi' : i < as.length) (q1 : (1 ≤ bso B (as.getD i 0) ∧ bso B (as.getD i 0) ≤ 127) → Q (.inl (some (.int 1))) σ) (q2 : ¬ (1 ≤ bso B (as.getD i 0) ∧ bso B (as.getD i 0) ≤ 127) → Q (.inl (some (.int 0))) σ) : wp_VectorSolverModel_isVector Q σ (nI i) := by
  have ok := A.so hi'
  unfold okS at ok
  unfold wp_VectorSolverModel_isVector
  refine r_ix A hi' ?_
  rw [xqi_i, show (0 : Int32) = nI 0 from rfl, nI_eq (by omega) (by decide)]
  refine ⟨fun z => q2 (by omega), fun z => ?_⟩
  refine r_wd A hi' ?_
  rw [xqi_i, nI_leI (by omega) (by decide)]
  exact ⟨fun y => q2 (by omega), fun y => q1 (by omega)⟩
theorem r_alk (A : AP B p h as op hi lo beg σ) (hi' : i < as.length) (hj : j < as.length) (q1 : bso B (as.getD i 0) = bso B (as.getD j 0) → Q (.inl (some (.int 1))) σ) (q2 : ¬ bso B (as.getD i 0) = bso B (as.getD j 0) → Q (.inl (some (.int 0))) σ) : wp_VectorSolverModel_areAlike Q σ (nI i) (nI j) := by
  have ok := A.so hi'
  have ok2 := A.so hj
  unfold okS at ok ok2
  unfold wp_VectorSolverModel_areAlike
  refine r_ix A hi' ?_
  rw [xqi_i]
  refine r_ix A hj ?_
  rw [xqi_i, nI_eq (by omega) (by omega)]
  refine ⟨fun z => q2 (by omega), fun z => ?_⟩
  refine r_wd A hi' ?_
  rw [xqi_i]
  refine r_wd A hj ?_
  rw [xqi_i, nI_eq (by omega) (by omega)]
  exact ⟨fun y => q2 (by omega), fun y => q1 (by omega)⟩
theorem r_all (A : AP B p h as op hi lo beg σ) (hn : 0 < as.length) (q1 : (∀ i, i < as.length → bso B (as.getD i 0) = bso B (as.getD 0 0)) → Q (.inl (some (.int 1))) σ) (q2 : ¬ (∀ i, i < as.length → bso B (as.getD i 0) = bso B (as.getD 0 0)) → Q (.inl (some (.int 0))) σ) : wp_VectorSolverModel_allAlike Q σ 0 := by
  obtain ⟨⟨a1, a2⟩, ⟨a3, a4, a4'⟩, a5, -⟩ := id A
  have vp : vp_in (nI p) 64 := vp_in_nI (by omega) (by decide)
  unfold wp_VectorSolverModel_allAlike
  have key := loop_i (σ := Bool) (fun m q b => w_VectorSolverModel_allAlike_4 Q m 0 (bI b) (nI q) σ) (fun q b => (b = true ↔ ∀ i, i < q → bso B (as.getD i 0) = bso B (as.getD 0 0))) as.length (fun m b hI => ?_) (fun m q b hq hI hs => ?_)
  · exact ⟨_, key (as.length + 1) 0 true (by omega) (by omega) ⟨fun _ i hi => absurd hi (by omega), fun _ => rfl⟩⟩
  · unfold w_VectorSolverModel_allAlike_4
    rw [a1, nI_clamp (n := p) (by omega), a5]
    refine ⟨vp, fun _ => ?_, fun z => absurd (Int32.le_refl _) z⟩
    cases b with
    | true => exact ⟨.inr rfl, q1 (hI.mp rfl)⟩
    | false => exact ⟨.inl rfl, q2 (fun z => by cases hI.mpr z)⟩
  · unfold w_VectorSolverModel_allAlike_4
    rw [a1, nI_clamp (n := p) (by omega), a5, nI_leI (by omega) (by omega)]
    refine ⟨vp, fun z => absurd z (by omega), fun _ => ?_⟩
    have st : (nI q : Int32) + 1 = nI (q + 1) := by rw [show (1 : Int32) = nI 1 from rfl, nI_add]
    have no : ¬ (∀ i, i < q → bso B (as.getD i 0) = bso B (as.getD 0 0)) ∨ ¬ bso B (as.getD q 0) = bso B (as.getD 0 0) → w_VectorSolverModel_allAlike_4 Q m 0 0 (nI (q + 1)) σ := fun z => by
      refine hs false ⟨fun y => (by cases y), fun y => ?_⟩
      rcases z with z | z
      · exact absurd (fun i hi => y i (by omega)) z
      · exact absurd (y q (by omega)) z
    cases b with
    | false => exact ⟨fun _ x1 e1 => by rw [e1, st]; exact no (.inl (fun z => by cases hI.mpr z)), fun z => absurd rfl z⟩
    | true =>
      refine ⟨fun z => absurd z (by decide), fun _ => ?_⟩
      refine r_alk A hq hn (fun z => ?_) (fun z => ?_)
      · rw [xqi_i]
        refine ⟨fun y => absurd y (by decide), fun _ x5 e5 => ?_⟩
        rw [e5, st]
        refine hs true ⟨fun _ i hi => ?_, fun _ => rfl⟩
        by_cases e : i = q
        · rw [e]; exact z
        · exact hI.mp rfl i (by omega)
      · rw [xqi_i]
        exact ⟨fun _ x4 e4 => by rw [e4, st]; exact no (.inr z), fun y => absurd rfl y⟩
theorem r_gets {a b : Int32} (k : ∀ σ', oE [56, 57] σ σ' → xi σ' 50 56 = a → xi σ' 50 57 = b → Q (.inl (some (.int 1))) σ') : wp_VectorSolverModel_gets Q σ a b := by
  unfold wp_VectorSolverModel_gets
  intro s1 e1 s2 e2
  refine k s2 (by rw [e2, e1]; exact (oE.pi _ _ _ (by decide)).trans (oE.pi _ _ _ (by decide))) ?_ ?_
  · rw [e2, xi_pi, if_neg (by decide), e1, xi_pi, if_pos ⟨rfl, rfl⟩]
  · rw [e2, xi_pi, if_pos ⟨rfl, rfl⟩]
/-- gets, then yes -/
theorem r_got {a b : Nat} (k : ∀ σ', oE [56, 57] σ σ' → xi σ' 50 56 = nI a → xi σ' 50 57 = nI b → Q (.inl (some (.int 1))) σ') : wp_VectorSolverModel_gets (xqi (fun r u => ((r = 0 → Q (.inl (some (.int 0))) u) ∧ (¬ r = 0 → Q (.inl (some (.int 1))) u))) (fun n u => Q (.inr n) u)) σ (nI a) (nI b) := by
  refine r_gets (fun σ' o h1 h2 => ?_)
  rw [xqi_i]
  exact ⟨fun z => absurd z (by decide), fun _ => k σ' o h1 h2⟩
theorem opr_v (h1 : 10 ≤ op) (h2 : op ≤ 46) : opr op = if op < 13 then op + 26 else op - 11 := by
  unfold opr
  rw [if_neg (by omega), if_neg (by omega)]
theorem sum_b {s : Nat → Nat} {n : Nat} (h : ∀ i, i < n → s i ≤ 127) : ((List.range n).map s).sum ≤ 127 * n := by
  induction n with
  | zero => simp
  | succ n ih =>
    rw [List.range_succ, List.map_append, List.sum_append]
    simp only [List.map_cons, List.map_nil, List.sum_cons, List.sum_nil]
    have := ih (fun i hi => h i (by omega))
    have := h n (by omega)
    omega
theorem r_cat (A : AP B p h as op hi lo beg σ) (q1 : ∀ σ', (∀ i, i < as.length → 1 ≤ bso B (as.getD i 0) ∧ bso B (as.getD i 0) ≤ 127) → ((List.range as.length).map (fun i => bso B (as.getD i 0))).sum ≤ 64 → oE [56, 57] σ σ' → xi σ' 50 56 = nI 0 → xi σ' 50 57 = nI ((List.range as.length).map (fun i => bso B (as.getD i 0))).sum → Q (.inl (some (.int 1))) σ') (q2 : ¬ ((∀ i, i < as.length → 1 ≤ bso B (as.getD i 0) ∧ bso B (as.getD i 0) ≤ 127) ∧ ((List.range as.length).map (fun i => bso B (as.getD i 0))).sum ≤ 64) → Q (.inl (some (.int 0))) σ) : ∃ m, w_VectorSolverModel_fits_192 Q m 0 1 0 σ := by
  obtain ⟨⟨a1, a2⟩, ⟨a3, a4, a4'⟩, a5, -⟩ := id A
  have vp : vp_in (nI p) 64 := vp_in_nI (by omega) (by decide)
  have key := loop_i (σ := Bool × Nat) (fun m q b => w_VectorSolverModel_fits_192 Q m (nI b.2) (bI b.1) (nI q) σ) (fun q b => b.2 ≤ 127 * q ∧ (b.1 = true ↔ ∀ i, i < q → 1 ≤ bso B (as.getD i 0) ∧ bso B (as.getD i 0) ≤ 127) ∧ (b.1 = true → b.2 = ((List.range q).map (fun i => bso B (as.getD i 0))).sum)) as.length (fun m b hI => ?_) (fun m q b hq hI hs => ?_)
  · exact ⟨_, key (as.length + 1) 0 (true, 0) (by omega) (by omega) ⟨Nat.le_refl _, ⟨fun _ i hi => absurd hi (by omega), fun _ => rfl⟩, fun _ => rfl⟩⟩
  · obtain ⟨j1, j2, j3⟩ := hI
    unfold w_VectorSolverModel_fits_192
    rw [a1, nI_clamp (n := p) (by omega), a5, show (64 : Int32) = nI 64 from rfl, nI_ltI (by decide) (by omega)]
    refine ⟨vp, fun _ => ?_, fun z => absurd (Int32.le_refl _) z⟩
    obtain ⟨b, w⟩ := b
    dsimp only at j1 j2 j3 ⊢
    cases b with
    | false => exact ⟨fun _ => q2 (fun z => by cases j2.mpr z.1), fun z => absurd rfl z⟩
    | true =>
      have jw := j3 rfl
      refine ⟨fun z => absurd z (by decide), fun _ => ⟨fun z => q2 (fun y => by rw [← jw] at y; omega), fun z => ?_⟩⟩
      refine r_got (a := 0) (fun σ' o h1 h2 => ?_)
      rw [jw] at h2
      exact q1 σ' (j2.mp rfl) (by rw [← jw]; omega) o h1 h2
  · obtain ⟨j1, j2, j3⟩ := hI
    have st : (nI q : Int32) + 1 = nI (q + 1) := by rw [show (1 : Int32) = nI 1 from rfl, nI_add]
    have ok := A.so hq
    unfold okS at ok
    obtain ⟨b, w⟩ := b
    dsimp only at j1 j2 j3 ⊢
    have sm : ((List.range (q + 1)).map (fun i => bso B (as.getD i 0))).sum = ((List.range q).map (fun i => bso B (as.getD i 0))).sum + bso B (as.getD q 0) := by
      rw [List.range_succ, List.map_append, List.sum_append]
      simp
    have no : ¬ (∀ i, i < q → 1 ≤ bso B (as.getD i 0) ∧ bso B (as.getD i 0) ≤ 127) ∨ ¬ (1 ≤ bso B (as.getD q 0) ∧ bso B (as.getD q 0) ≤ 127) → w_VectorSolverModel_fits_223 Q (w_VectorSolverModel_fits_192 Q m) (nI w) (nI q) σ := fun z => by
      unfold w_VectorSolverModel_fits_223 w_VectorSolverModel_fits_224
      refine r_wd A hq ?_
      rw [xqi_i]
      intro x43 e43 x44 e44
      rw [nI_add] at e43
      rw [e43, e44, st]
      refine hs (false, w + bso B (as.getD q 0) % 128) ⟨by dsimp only; omega, ⟨fun y => (by cases y), fun y => ?_⟩, fun y => (by cases y)⟩
      rcases z with z | z
      · exact absurd (fun i hi => y i (by omega)) z
      · exact absurd (y q (by omega)) z
    unfold w_VectorSolverModel_fits_192
    rw [a1, nI_clamp (n := p) (by omega), a5, nI_leI (by omega) (by omega)]
    refine ⟨vp, fun z => absurd z (by omega), fun _ => ?_⟩
    cases b with
    | false => exact ⟨fun _ => no (.inl (fun z => by cases j2.mpr z)), fun z => absurd rfl z⟩
    | true =>
      refine ⟨fun z => absurd z (by decide), fun _ => ?_⟩
      refine r_isVec A hq (fun z => ?_) (fun z => ?_)
      · rw [xqi_i]
        refine ⟨fun y => absurd y (by decide), fun _ => ?_⟩
        unfold w_VectorSolverModel_fits_224
        refine r_wd A hq ?_
        rw [xqi_i]
        intro x43 e43 x44 e44
        rw [nI_add, show bso B (as.getD q 0) % 128 = bso B (as.getD q 0) by omega] at e43
        rw [e43, e44, st]
        refine hs (true, w + bso B (as.getD q 0)) ⟨by dsimp only; omega, ⟨fun _ i hi => ?_, fun _ => rfl⟩, fun _ => ?_⟩
        · by_cases e : i = q
          · rw [e]; exact z
          · exact j2.mp rfl i (by omega)
        · dsimp only
          rw [sm, ← j3 rfl]
      · rw [xqi_i]
        exact ⟨fun _ => no (.inr z), fun y => absurd rfl y⟩
theorem r_fits (A : AP B p h as op hi lo beg σ) (fit : fitM op as.length = true) (h1 : 10 ≤ op) (h2 : op ≤ 46) (hlo : lo ≤ hi) (hhi : hi ≤ 2147483647)
    (q1 : ∀ so σ', sor op as.length (fun i => bso B (as.getD i 0)) hi lo = some so → oE [56, 57] σ σ' → xi σ' 50 56 = nI (so / 128) → xi σ' 50 57 = nI (so % 128) → Q (.inl (some (.int 1))) σ') (q2 : sor op as.length (fun i => bso B (as.getD i 0)) hi lo = none → Q (.inl (some (.int 0))) σ) : wp_VectorSolverModel_fits Q σ (nI (opr op)) := by
  obtain ⟨⟨a1, a2⟩, ⟨a3, a4, a4'⟩, a5, a6, a7, a8, a9, -⟩ := id A
  have vp : vp_in (nI p) 64 := vp_in_nI (by omega) (by decide)
  obtain ⟨d1, d2, d3, d4, d5⟩ := fitM_cs fit
  have ok0 := A.so (show 0 < as.length by omega)
  have ok0' := ok0
  unfold okS at ok0'
  have ov := opr_v h1 h2
  generalize opr op = o at ov ⊢
  have go : o < 64 := by split at ov <;> omega
  have got : ∀ (so : Nat) {Q' : xO → xS → Prop} {a b : Nat}, sor op as.length (fun i => bso B (as.getD i 0)) hi lo = some so → a = so / 128 → b = so % 128 → (∀ u v, Q' u v = Q u v) → wp_VectorSolverModel_gets (xqi (fun r u => ((r = 0 → Q (.inl (some (.int 0))) u) ∧ (¬ r = 0 → Q (.inl (some (.int 1))) u))) (fun n u => Q (.inr n) u)) σ (nI a) (nI b) := fun so Q' a b hs e1 e2 _ => by
    refine r_got (fun σ' o h1 h2 => ?_)
    rw [e1] at h1
    rw [e2] at h2
    exact q1 so σ' hs o h1 h2
  have got : ∀ (so a b : Nat), sor op as.length (fun i => bso B (as.getD i 0)) hi lo = some so → a = so / 128 → b = so % 128 → wp_VectorSolverModel_gets (xqi (fun r u => ((r = 0 → Q (.inl (some (.int 0))) u) ∧ (¬ r = 0 → Q (.inl (some (.int 1))) u))) (fun n u => Q (.inr n) u)) σ (nI a) (nI b) := fun so a b hs e1 e2 => got so (Q' := Q) hs e1 e2 (fun _ _ => rfl)
  unfold wp_VectorSolverModel_fits
  rw [show (7 : Int32) = nI 7 from rfl, show (10 : Int32) = nI 10 from rfl, show (33 : Int32) = nI 33 from rfl, show (36 : Int32) = nI 36 from rfl, show (25 : Int32) = nI 25 from rfl, nI_leI (a := 7) (by decide) (by omega), nI_eq (b := 7) (by omega) (by decide), nI_leI (a := 10) (by decide) (by omega), nI_leI (a := 33) (by decide) (by omega), nI_eq (b := 33) (by omega) (by decide), nI_leI (a := 36) (by decide) (by omega), nI_eq (b := 36) (by omega) (by decide), nI_leI (a := 25) (by decide) (by omega)]
  by_cases c1 : op = 10
  · have e : sor op as.length (fun i => bso B (as.getD i 0)) hi lo = if (1 ≤ bso B (as.getD 0 0) ∧ bso B (as.getD 0 0) ≤ 127) ∧ hi < bso B (as.getD 0 0) then some (hi - lo + 1) else none := by unfold sor; rw [if_pos c1]
    rw [if_pos (by omega)] at ov
    refine ⟨fun _ => ⟨fun _ => ⟨fun _ => ⟨fun _ => ⟨fun _ => ⟨fun _ => ⟨fun z => absurd z (by omega), fun _ => ?_⟩, fun z => absurd z (by omega)⟩, fun z => absurd z (by omega)⟩, fun z => absurd z (by omega)⟩, fun z => absurd z (by omega)⟩, fun z => absurd z (by omega)⟩, fun z => absurd z (by omega)⟩
    refine r_isVec (i := 0) A (by omega) (fun z => ?_) (fun z => ?_)
    rotate_left
    · rw [xqi_i]
      exact ⟨fun _ => q2 (by rw [e, if_neg (fun y => z y.1)]), fun y => absurd rfl y⟩
    rw [xqi_i]
    refine ⟨fun y => absurd y (by decide), fun _ => ?_⟩
    rw [a1, nI_clamp (n := p) (by omega), a8]
    refine ⟨vp, r_wd (i := 0) A (by omega) ?_⟩
    rw [xqi_i, nI_leI (by omega) (by omega), a1, nI_clamp (n := p) (by omega), a8, a9, nI_sub hlo, show (1 : Int32) = nI 1 from rfl, nI_add]
    refine ⟨fun y => q2 (by rw [e, if_neg (by omega)]), fun y => ⟨vp, vp, ?_⟩⟩
    exact got (hi - lo + 1) 0 _ (by rw [e, if_pos (by omega)]) (by omega) (by omega)
  by_cases c2 : op = 11 ∨ op = 12
  · have e : sor op as.length (fun i => bso B (as.getD i 0)) hi lo = if (1 ≤ bso B (as.getD 0 0) ∧ bso B (as.getD 0 0) ≤ 127) ∧ hi + bso B (as.getD 0 0) ≤ 64 then some (bso B (as.getD 0 0) + hi) else none := by unfold sor; rw [if_neg c1, if_pos c2]
    rw [if_pos (by omega)] at ov
    refine ⟨fun _ => ⟨fun _ => ⟨fun _ => ⟨fun _ => ⟨fun _ => ⟨fun _ => ⟨fun _ => ?_, fun z => absurd z (by omega)⟩, fun z => absurd z (by omega)⟩, fun z => absurd z (by omega)⟩, fun z => absurd z (by omega)⟩, fun z => absurd z (by omega)⟩, fun z => absurd z (by omega)⟩, fun z => absurd z (by omega)⟩
    refine r_isVec (i := 0) A (by omega) (fun z => ?_) (fun z => ?_)
    rotate_left
    · rw [xqi_i]
      exact ⟨fun _ => q2 (by rw [e, if_neg (fun y => z y.1)]), fun y => absurd rfl y⟩
    rw [xqi_i]
    refine ⟨fun y => absurd y (by decide), fun _ => ?_⟩
    rw [a1, nI_clamp (n := p) (by omega), a8]
    refine ⟨vp, r_wd (i := 0) A (by omega) ?_⟩
    rw [xqi_i, show (64 : Int32) = nI 64 from rfl, nI_sub (by omega), nI_ltI (by omega) (by omega)]
    refine ⟨fun y => q2 (by rw [e, if_neg (by omega)]), fun y => ?_⟩
    refine r_wd (i := 0) A (by omega) ?_
    rw [xqi_i, a1, nI_clamp (n := p) (by omega), a8, nI_add]
    exact ⟨vp, got (bso B (as.getD 0 0) + hi) 0 _ (by rw [e, if_pos (by omega)]) (by omega) (by omega)⟩
  by_cases c3 : op = 13 ∨ op = 14 ∨ op = 15 ∨ op = 16 ∨ op = 17
  · have e : sor op as.length (fun i => bso B (as.getD i 0)) hi lo = if bso B (as.getD 0 0) = 0 ∧ (∀ i, i < as.length → bso B (as.getD i 0) = bso B (as.getD 0 0)) then some 0 else none := by unfold sor; rw [if_neg c1, if_neg c2, if_pos c3]
    rw [if_neg (by omega)] at ov
    refine ⟨fun z => absurd z (by omega), fun _ => ?_⟩
    refine r_all A (by omega) (fun z => ?_) (fun z => ?_)
    rotate_left
    · rw [xqi_i]
      exact ⟨fun _ => q2 (by rw [e, if_neg (fun y => z y.2)]), fun y => absurd rfl y⟩
    rw [xqi_i]
    refine ⟨fun y => absurd y (by decide), fun _ => ?_⟩
    refine r_ix (i := 0) A (by omega) ?_
    rw [xqi_i, show (0 : Int32) = nI 0 from rfl, nI_eq (by omega) (by decide)]
    refine ⟨fun y => q2 (by rw [e, if_neg (by omega)]), fun y => ?_⟩
    refine r_wd (i := 0) A (by omega) ?_
    rw [xqi_i, nI_eq (by omega) (by decide)]
    refine ⟨fun x => q2 (by rw [e, if_neg (by omega)]), fun x => ?_⟩
    exact got 0 0 0 (by rw [e, if_pos ⟨by omega, z⟩]) rfl rfl
  by_cases c4 : op = 18
  · have e : sor op as.length (fun i => bso B (as.getD i 0)) hi lo = if bso B (as.getD 0 0) = 0 ∧ bso B (as.getD 2 0) = bso B (as.getD 1 0) then some (bso B (as.getD 1 0)) else none := by unfold sor; rw [if_neg c1, if_neg c2, if_neg c3, if_pos c4]
    have n3 := d3 (by omega)
    rw [if_neg (by omega)] at ov
    refine ⟨fun _ => ⟨fun z => absurd (by omega) z, fun _ => ?_⟩, fun z => absurd z (by omega)⟩
    refine r_ix (i := 0) A (by omega) ?_
    rw [xqi_i, show (0 : Int32) = nI 0 from rfl, nI_eq (by omega) (by decide)]
    refine ⟨fun y => q2 (by rw [e, if_neg (by omega)]), fun y => ?_⟩
    refine r_wd (i := 0) A (by omega) ?_
    rw [xqi_i, nI_eq (by omega) (by decide)]
    refine ⟨fun x => q2 (by rw [e, if_neg (by omega)]), fun x => ?_⟩
    refine r_alk (i := 1) (j := 2) A (by omega) (by omega) (fun z => ?_) (fun z => ?_)
    · rw [xqi_i]
      refine ⟨fun y => absurd y (by decide), fun _ => ?_⟩
      refine r_ix (i := 1) A (by omega) ?_
      rw [xqi_i]
      refine r_wd (i := 1) A (by omega) ?_
      rw [xqi_i]
      exact got _ _ _ (by rw [e, if_pos ⟨by omega, z.symm⟩]) rfl rfl
    · rw [xqi_i]
      exact ⟨fun _ => q2 (by rw [e, if_neg (fun y => z y.2.symm)]), fun y => absurd rfl y⟩
  by_cases c5 : op = 19 ∨ op = 20
  · have e : sor op as.length (fun i => bso B (as.getD i 0)) hi lo = if (∀ i, i < as.length → bso B (as.getD i 0) = bso B (as.getD 0 0)) then some 0 else none := by unfold sor; rw [if_neg c1, if_neg c2, if_neg c3, if_neg c4, if_pos c5]
    rw [if_neg (by omega)] at ov
    refine ⟨fun _ => ⟨fun _ => ⟨fun z => absurd z (by omega), fun _ => ?_⟩, fun z => absurd z (by omega)⟩, fun z => absurd z (by omega)⟩
    refine r_all A (by omega) (fun z => ?_) (fun z => ?_)
    · rw [xqi_i]
      exact ⟨fun y => absurd y (by decide), fun _ => got 0 0 0 (by rw [e, if_pos z]) rfl rfl⟩
    · rw [xqi_i]
      exact ⟨fun _ => q2 (by rw [e, if_neg z]), fun y => absurd rfl y⟩
  by_cases c6 : op = 44
  · have e : sor op as.length (fun i => bso B (as.getD i 0)) hi lo = if (∀ i, i < as.length → 1 ≤ bso B (as.getD i 0) ∧ bso B (as.getD i 0) ≤ 127) ∧ ((List.range as.length).map (fun i => bso B (as.getD i 0))).sum ≤ 64 then some ((List.range as.length).map (fun i => bso B (as.getD i 0))).sum else none := by unfold sor; rw [if_neg c1, if_neg c2, if_neg c3, if_neg c4, if_neg c5, if_pos c6]
    rw [if_neg (by omega)] at ov
    refine ⟨fun _ => ⟨fun _ => ⟨fun _ => ⟨fun _ => ⟨fun z => absurd (by omega) z, fun _ => ?_⟩, fun z => absurd z (by omega)⟩, fun z => absurd z (by omega)⟩, fun z => absurd z (by omega)⟩, fun z => absurd z (by omega)⟩
    refine r_cat A (fun σ' y1 y2 o g1 g2 => ?_) (fun y => q2 (by rw [e, if_neg y]))
    exact q1 _ σ' (by rw [e, if_pos ⟨y1, y2⟩]) o (by rw [g1, Nat.div_eq_of_lt (by omega)]) (by rw [g2, Nat.mod_eq_of_lt (by omega)])
  by_cases c7 : op = 45 ∨ op = 46
  · rw [if_neg (by omega)] at ov
    have n2 : 2 ≤ as.length := by
      rcases c7 with c | c
      · have := d4 (by omega) (by omega) (by omega); omega
      · have := d3 (by omega); omega
    have ok1 := A.so (show 1 < as.length by omega)
    have ok1' := ok1
    unfold okS at ok1'
    have e45 : op = 45 → sor op as.length (fun i => bso B (as.getD i 0)) hi lo = if 128 ≤ bso B (as.getD 0 0) ∧ bso B (as.getD 1 0) = bso B (as.getD 0 0) / 128 then some (bso B (as.getD 0 0) % 128) else none := fun c => by unfold sor; rw [if_neg c1, if_neg c2, if_neg c3, if_neg c4, if_neg c5, if_neg c6, if_pos c]
    have e46 : op = 46 → sor op as.length (fun i => bso B (as.getD i 0)) hi lo = if 128 ≤ bso B (as.getD 0 0) ∧ bso B (as.getD 1 0) = bso B (as.getD 0 0) / 128 ∧ bso B (as.getD 2 0) = bso B (as.getD 0 0) % 128 then some (bso B (as.getD 0 0)) else none := fun c => by unfold sor; rw [if_neg c1, if_neg c2, if_neg c3, if_neg c4, if_neg c5, if_neg c6, if_neg (by omega), if_pos c]
    have no : ¬ (128 ≤ bso B (as.getD 0 0) ∧ bso B (as.getD 1 0) = bso B (as.getD 0 0) / 128) → w_VectorSolverModel_fits_304 Q (nI o) σ := fun z => by
      have k := q2 (by
        rcases c7 with c | c
        · rw [e45 c, if_neg z]
        · rw [e46 c, if_neg (fun y => z ⟨y.1, y.2.1⟩)])
      unfold w_VectorSolverModel_fits_304 w_VectorSolverModel_fits_305
      exact ⟨fun _ => ⟨fun _ => k, fun y => absurd rfl y⟩, fun _ => ⟨fun _ => k, fun y => absurd rfl y⟩⟩
    refine ⟨fun _ => ⟨fun _ => ⟨fun _ => ⟨fun _ => ⟨fun _ => ⟨fun z => absurd z (by omega), fun _ => ?_⟩, fun z => absurd z (by omega)⟩, fun z => absurd z (by omega)⟩, fun z => absurd z (by omega)⟩, fun z => absurd z (by omega)⟩, fun z => absurd z (by omega)⟩
    refine r_ix (i := 0) A (by omega) ?_
    rw [xqi_i, show (0 : Int32) = nI 0 from rfl, nI_leI (by omega) (by decide)]
    refine ⟨fun z => no (by omega), fun z => ?_⟩
    refine r_isVec (i := 1) A (by omega) (fun y => ?_) (fun y => ?_)
    rotate_left
    · rw [xqi_i]
      exact ⟨fun _ => no (by omega), fun x => absurd rfl x⟩
    rw [xqi_i]
    refine ⟨fun x => absurd x (by decide), fun _ => ?_⟩
    refine r_wd (i := 1) A (by omega) ?_
    rw [xqi_i]
    refine r_ix (i := 0) A (by omega) ?_
    rw [xqi_i, nI_eq (by omega) (by omega)]
    refine ⟨fun x => no (by omega), fun x => ?_⟩
    have ok : 128 ≤ bso B (as.getD 0 0) ∧ bso B (as.getD 1 0) = bso B (as.getD 0 0) / 128 := by omega
    unfold w_VectorSolverModel_fits_305
    rw [show (34 : Int32) = nI 34 from rfl, nI_eq (by omega) (by decide)]
    refine ⟨fun c => ⟨fun w => absurd w (by decide), fun _ => ?_⟩, fun c => ⟨fun w => absurd w (by decide), fun _ => ?_⟩⟩
    · have c46 : op = 46 := by omega
      have n3 := d3 (by omega)
      have ok2 := A.so (show 2 < as.length by omega)
      unfold okS at ok2
      refine r_isVec (i := 2) A (by omega) (fun w => ?_) (fun w => ?_)
      rotate_left
      · rw [xqi_i]
        exact ⟨fun _ => q2 (by rw [e46 c46, if_neg (by omega)]), fun v => absurd rfl v⟩
      rw [xqi_i]
      refine ⟨fun v => absurd v (by decide), fun _ => ?_⟩
      refine r_wd (i := 2) A (by omega) ?_
      rw [xqi_i]
      refine r_wd (i := 0) A (by omega) ?_
      rw [xqi_i, nI_eq (by omega) (by omega)]
      refine ⟨fun v => q2 (by rw [e46 c46, if_neg (by omega)]), fun v => ?_⟩
      refine r_ix (i := 0) A (by omega) ?_
      rw [xqi_i]
      refine r_wd (i := 0) A (by omega) ?_
      rw [xqi_i]
      exact got _ _ _ (by rw [e46 c46, if_pos (by omega)]) rfl rfl
    · refine r_wd (i := 0) A (by omega) ?_
      rw [xqi_i]
      exact got _ 0 _ (by rw [e45 (by omega), if_pos ok]) (by omega) (by omega)
  · have e : sor op as.length (fun i => bso B (as.getD i 0)) hi lo = if (1 ≤ bso B (as.getD 0 0) ∧ bso B (as.getD 0 0) ≤ 127) ∧ (∀ i, i < as.length → bso B (as.getD i 0) = bso B (as.getD 0 0)) then some (if 36 ≤ op then 0 else bso B (as.getD 0 0)) else none := by unfold sor; rw [if_neg c1, if_neg c2, if_neg c3, if_neg c4, if_neg c5, if_neg c6, if_neg (by omega), if_neg (by omega)]
    rw [if_neg (by omega)] at ov
    refine ⟨fun _ => ⟨fun _ => ⟨fun _ => ⟨fun z => absurd z (by omega), fun _ => ?_⟩, fun z => absurd z (by omega)⟩, fun z => absurd z (by omega)⟩, fun z => absurd z (by omega)⟩
    refine r_isVec (i := 0) A (by omega) (fun y => ?_) (fun y => ?_)
    rotate_left
    · rw [xqi_i]
      exact ⟨fun _ => q2 (by rw [e, if_neg (fun x => y x.1)]), fun x => absurd rfl x⟩
    rw [xqi_i]
    refine ⟨fun x => absurd x (by decide), fun _ => ?_⟩
    refine r_all A (by omega) (fun z => ?_) (fun z => ?_)
    rotate_left
    · rw [xqi_i]
      exact ⟨fun _ => q2 (by rw [e, if_neg (fun y => z y.2)]), fun y => absurd rfl y⟩
    rw [xqi_i]
    refine ⟨fun x => absurd x (by decide), fun _ => ⟨fun w => ?_, fun w => ?_⟩⟩
    · unfold w_VectorSolverModel_fits_167
      exact got 0 0 0 (by rw [e, if_pos ⟨y, z⟩, if_pos (by omega)]) rfl rfl
    · refine r_wd (i := 0) A (by omega) ?_
      rw [xqi_i]
      unfold w_VectorSolverModel_fits_167
      exact got _ 0 _ (by rw [e, if_pos ⟨y, z⟩, if_neg (by omega)]) (by omega) rfl
end RAP
