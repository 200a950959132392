/-! THE CLASS READS: an application's sort and arguments -/
theorem op_le {B : Bk} (w : wfB B) {t : Nat} (ht : t < bma B) : bop B t ≤ 48 := by
  have ty := wf_ty w ht
  apply Classical.byContradiction
  intro n
  unfold typ at ty
  dsimp only at ty
  split at ty <;> omega
theorem so_lt {B : Bk} (w : wfB B) {t : Nat} (ht : t < bma B) : bso B t < 1024 := by
  have := wf_so w ht
  unfold okS at this
  omega
def SK (σ : xS) (base : Nat) (as : List Nat) : Prop := ∀ k, k < as.length → xi σ 25 (base + k) = nI (as.getD k 0)
theorem bI_if {p : Prop} [Decidable p] : (if p then (1 : Int32) else 0) = bI (decide p) := by
  by_cases h : p
  · rw [if_pos h, decide_eq_true h]; rfl
  · rw [if_neg h, decide_eq_false h]; rfl
section CAP
variable {B : Bk} {top base : Nat} {σ : xS} {Q : xO → xS → Prop} {as : List Nat}
theorem v_oneSort {a : Nat} (R : RC B σ) (w : wfB B) (sk : SK σ base as) (ht : xi σ 24 4 = nI (base + as.length)) (hb : base + as.length ≤ 2400) (ha : ∀ x ∈ as, x < bma B) (h1 : a < as.length) (k : Q (.inl (some (.int (bI (decide (∀ i, i < as.length → a < i → bso B (as.getD i 0) = bso B (as.getD a 0))))))) σ) : wp_Reader_isOneSort Q σ (nI (base + a)) := by
  have ma := wf_ma w
  have al := ha _ (getD_mem h1)
  have sa := so_lt w al
  unfold wp_Reader_isOneSort
  intro x1 e1
  rw [show (1 : Int32) = nI 1 from rfl, nI_add] at e1
  subst e1
  have key := loop_i (σ := Unit) (fun m q _ => w_Reader_isOneSort_4 Q m (nI (base + a)) (nI q) σ) (fun q _ => base + a + 1 ≤ q ∧ ∀ i, base + i < q → a < i → bso B (as.getD i 0) = bso B (as.getD a 0)) (base + as.length) (fun m _ hI => ?_) (fun m q _ hq hI hs => ?_)
  · exact ⟨_, key (base + as.length + 1) (base + a + 1) () (by omega) (by omega) ⟨Nat.le_refl _, fun i h1 h2 => absurd h1 (by omega)⟩⟩
  · unfold w_Reader_isOneSort_4
    rw [ht]
    refine ⟨fun _ => ?_, fun z => absurd (Int32.le_refl _) z⟩
    rw [decide_eq_true (fun i h1 h2 => hI.2 i (by omega) h2)] at k
    exact k
  · obtain ⟨q', rfl⟩ : ∃ q', q = base + q' := ⟨q - base, by omega⟩
    have ql := ha _ (getD_mem (show q' < as.length by omega))
    have sq := so_lt w ql
    unfold w_Reader_isOneSort_4
    rw [ht, nI_clamp (n := base + q') (by omega), nI_clamp (n := base + a) (by omega), sk q' (by omega), sk a h1, nI_clamp (n := as.getD q' 0) (by omega), nI_clamp (n := as.getD a 0) (by omega), rc_so R ql, rc_so R al, nI_eq (by omega) (by omega)]
    refine ⟨fun z => absurd ((nI_leI (by omega) (by omega)).mp z) (by omega), fun _ => ⟨vp_in_nI (by omega) (by decide), vp_in_nI (by omega) (by decide), vp_in_nI (by omega) (by decide), vp_in_nI (by omega) (by decide), fun z x2 e2 => ?_, fun z => ?_⟩⟩
    · rw [show (1 : Int32) = nI 1 from rfl, nI_add] at e2
      subst e2
      refine hs () ⟨by omega, fun i h1 h2 => ?_⟩
      by_cases e : i = q'
      · rw [e]; exact z
      · exact hI.2 i (by omega) h2
    · rw [decide_eq_false (fun h => z (h q' (by omega) (by omega)))] at k
      exact k
theorem v_concat (R : RC B σ) (w : wfB B) (sk : SK σ base as) (ht : xi σ 24 4 = nI (base + as.length)) (hb : base + as.length ≤ 2400) (hl : as.length ≤ 40) (ha : ∀ x ∈ as, x < bma B) (k : Q (.inl (some (.int (supI (if (∀ i, i < as.length → 1 ≤ bso B (as.getD i 0) ∧ bso B (as.getD i 0) ≤ 127) ∧ ((List.range as.length).map (fun i => bso B (as.getD i 0))).sum ≤ 64 then some ((List.range as.length).map (fun i => bso B (as.getD i 0))).sum else none))))) σ) : wp_Reader_sortOfConcat Q σ (nI base) := by
  have ma := wf_ma w
  unfold wp_Reader_sortOfConcat
  have key := loop_i (σ := Unit) (fun m q _ => w_Reader_sortOfConcat_4 Q m (nI ((List.range q).map (fun i => bso B (as.getD i 0))).sum) (nI (base + q)) σ) (fun q _ => (∀ i, i < q → 1 ≤ bso B (as.getD i 0) ∧ bso B (as.getD i 0) ≤ 127) ∧ ((List.range q).map (fun i => bso B (as.getD i 0))).sum ≤ 127 * q) as.length (fun m _ hI => ?_) (fun m q _ hq hI hs => ?_)
  · exact ⟨_, key (as.length + 1) 0 () (by omega) (by omega) ⟨fun i h => absurd h (by omega), by simp⟩⟩
  · unfold w_Reader_sortOfConcat_4
    rw [ht, show (64 : Int32) = nI 64 from rfl, nI_ltI (by decide) (by omega)]
    refine ⟨fun _ => ⟨fun z => ?_, fun z => ?_⟩, fun z => absurd (Int32.le_refl _) z⟩
    · rw [if_neg (by omega)] at k; exact k
    · rw [if_pos ⟨hI.1, by omega⟩] at k; exact k
  · have ql := ha _ (getD_mem hq)
    have sq := so_lt w ql
    unfold w_Reader_sortOfConcat_4
    rw [ht, nI_clamp (n := base + q) (by omega), sk q hq, nI_clamp (n := as.getD q 0) (by omega), rc_so R ql]
    refine ⟨fun z => absurd ((nI_leI (by omega) (by omega)).mp z) (by omega), fun _ => ⟨vp_in_nI (by omega) (by decide), vp_in_nI (by omega) (by decide), fun x1 e1 => ?_⟩⟩
    subst e1
    refine p_isVector (by omega) ?_
    rw [xqi_i, bI_if]
    refine ⟨fun z x4 e4 x5 e5 => ?_, fun z => ?_⟩
    · have v : 1 ≤ bso B (as.getD q 0) ∧ bso B (as.getD q 0) ≤ 127 := by
        apply Classical.byContradiction
        intro h
        exact z ((bI_0 _).mpr (decide_eq_false h))
      have sm : ((List.range (q + 1)).map (fun i => bso B (as.getD i 0))).sum = ((List.range q).map (fun i => bso B (as.getD i 0))).sum + bso B (as.getD q 0) := by
        rw [List.range_succ, List.map_append, List.sum_append]
        simp
      rw [nI_add, ← sm] at e4
      rw [show (1 : Int32) = nI 1 from rfl, nI_add] at e5
      subst e4 e5
      refine hs () ⟨fun i hi => ?_, by rw [sm]; omega⟩
      by_cases e : i = q
      · rw [e]; exact v
      · exact hI.1 i (by omega)
    · have v : ¬ (1 ≤ bso B (as.getD q 0) ∧ bso B (as.getD q 0) ≤ 127) := of_decide_eq_false ((bI_0 _).mp z)
      rw [if_neg (fun h => v (h.1 q hq))] at k
      exact k
theorem v_sor {op hi lo : Nat} (R : RC B σ) (w : wfB B) (sk : SK σ base as) (ht : xi σ 24 4 = nI (base + as.length)) (hb : base + as.length ≤ 2400) (hl : as.length ≤ 40) (ha : ∀ x ∈ as, x < bma B) (hf : fitM op as.length = true) (h1 : 10 ≤ op) (h2 : op ≤ 46) (hh : op ≤ 12 → xi σ 24 10 = nI hi ∧ xi σ 24 11 = nI lo ∧ hi ≤ 2147483647 ∧ lo ≤ hi) (k : Q (.inl (some (.int (supI (sor op as.length (fun i => bso B (as.getD i 0)) hi lo))))) σ) : wp_Reader_sortOfResult Q σ (nI op) (nI base) := by
  have ma := wf_ma w
  obtain ⟨d1, d2, d3, d4, d5⟩ := fitM_cs hf
  have a0 := ha _ (getD_mem (show 0 < as.length by omega))
  have s0 := so_lt w a0
  have ok0 := wf_so w a0
  have sk0 : xi σ 25 base = nI (as.getD 0 0) := sk 0 (by omega)
  have one : ∀ {Q' : xO → xS → Prop} (a : Nat), a < as.length → Q' (.inl (some (.int (bI (decide (∀ i, i < as.length → a < i → bso B (as.getD i 0) = bso B (as.getD a 0))))))) σ → wp_Reader_isOneSort Q' σ (nI (base + a)) := fun a h q => v_oneSort R w sk ht hb ha h q
  have o0 : ∀ {Q' : xO → xS → Prop}, ((∀ i, i < as.length → bso B (as.getD i 0) = bso B (as.getD 0 0)) → Q' (.inl (some (.int 1))) σ) → (¬ (∀ i, i < as.length → bso B (as.getD i 0) = bso B (as.getD 0 0)) → Q' (.inl (some (.int 0))) σ) → wp_Reader_isOneSort Q' σ (nI base) := fun {Q'} q1 q2 => by
    refine one 0 (by omega) ?_
    by_cases z : ∀ i, i < as.length → bso B (as.getD i 0) = bso B (as.getD 0 0)
    · rw [decide_eq_true (fun i h _ => z i h)]; exact q1 z
    · rw [decide_eq_false (fun y => z (fun i h => by
        by_cases e : i = 0
        · rw [e]
        · exact y i h (by omega)))]
      exact q2 z
  unfold wp_Reader_sortOfResult
  rw [nI_clamp (n := base) (by omega), sk0, nI_clamp (n := as.getD 0 0) (by omega), rc_so R a0]
  refine ⟨vp_in_nI (by omega) (by decide), vp_in_nI (by omega) (by decide), fun x1 e1 => ?_⟩
  subst e1
  refine p_isVector (by omega) ?_
  rw [xqi_i, bI_if]
  have vz : ∀ {p : Prop} [Decidable p], (bI (decide p) = 0) ↔ ¬ p := fun {p} _ => ⟨fun z => of_decide_eq_false ((bI_0 _).mp z), fun z => (bI_0 _).mpr (decide_eq_false z)⟩
  rw [vz]
  have eqs : ∀ n, n < 64 → ((nI op = nI n) = (op = n)) := fun n hn => propext (nI_eq (by omega) (by omega))
  rw [show (10 : Int32) = nI 10 from rfl, show (11 : Int32) = nI 11 from rfl, show (12 : Int32) = nI 12 from rfl, show (13 : Int32) = nI 13 from rfl, show (14 : Int32) = nI 14 from rfl, show (15 : Int32) = nI 15 from rfl, show (16 : Int32) = nI 16 from rfl, show (17 : Int32) = nI 17 from rfl, show (18 : Int32) = nI 18 from rfl, show (19 : Int32) = nI 19 from rfl, show (20 : Int32) = nI 20 from rfl, show (36 : Int32) = nI 36 from rfl, show (37 : Int32) = nI 37 from rfl, show (38 : Int32) = nI 38 from rfl, show (39 : Int32) = nI 39 from rfl, show (40 : Int32) = nI 40 from rfl, show (41 : Int32) = nI 41 from rfl, show (42 : Int32) = nI 42 from rfl, show (43 : Int32) = nI 43 from rfl, show (44 : Int32) = nI 44 from rfl, show (45 : Int32) = nI 45 from rfl, show (46 : Int32) = nI 46 from rfl,
    eqs 10 (by decide), eqs 11 (by decide), eqs 12 (by decide), eqs 13 (by decide), eqs 14 (by decide), eqs 15 (by decide), eqs 16 (by decide), eqs 17 (by decide), eqs 18 (by decide), eqs 19 (by decide), eqs 20 (by decide), eqs 36 (by decide), eqs 37 (by decide), eqs 38 (by decide), eqs 39 (by decide), eqs 40 (by decide), eqs 41 (by decide), eqs 42 (by decide), eqs 43 (by decide), eqs 44 (by decide), eqs 45 (by decide), eqs 46 (by decide)]
  unfold sor at k
  dsimp only at k
  refine ⟨fun z => ?_, fun z => ?_, fun z => ?_, fun z => ?_, fun z => ?_, fun z => ?_, fun z => ?_, fun z => ?_, fun z => ?_⟩
  · rw [if_pos z] at k
    obtain ⟨g1, g2, g3, g4⟩ := hh (by omega)
    rw [g1, g2, nI_leI (by omega) (by omega), nI_sub g4, show (1 : Int32) = nI 1 from rfl, nI_add]
    refine ⟨fun y => ?_, fun y => ⟨fun y2 => ?_, fun y2 => ?_⟩⟩
    · rw [if_neg (fun h => y h.1)] at k; exact k
    · rw [if_neg (by omega)] at k; exact k
    · rw [if_pos ⟨Classical.byContradiction y, by omega⟩] at k; exact k
  · rw [if_neg (by omega), if_pos z] at k
    obtain ⟨g1, g2, g3, g4⟩ := hh (by omega)
    refine ⟨fun y => ?_, fun y => ?_⟩
    · rw [if_neg (fun h => y h.1)] at k; exact k
    · have y := Classical.byContradiction y
      unfold okS at ok0
      rw [g1, show (64 : Int32) = nI 64 from rfl, nI_sub (by omega), nI_ltI (by omega) (by omega), nI_add]
      refine ⟨fun y2 => ?_, fun y2 => ?_⟩
      · rw [if_neg (by omega)] at k; exact k
      · rw [if_pos ⟨y, by omega⟩] at k; exact k
  · rw [if_neg (by omega), if_neg (by omega), if_pos z] at k
    rw [show (0 : Int32) = nI 0 from rfl, nI_eq (by omega) (by decide)]
    refine ⟨fun y => ?_, fun y => ?_⟩
    · rw [if_neg (fun h => y h.1)] at k; exact k
    · refine o0 (fun q => ?_) (fun q => ?_)
      · rw [xqi_i]
        rw [if_pos ⟨y, q⟩] at k
        exact ⟨fun n => absurd n (by decide), fun _ => k⟩
      · rw [xqi_i]
        rw [if_neg (fun h => q h.2)] at k
        exact ⟨fun _ => k, fun n => absurd rfl n⟩
  · rw [if_neg (by omega), if_neg (by omega), if_neg (by omega), if_pos z] at k
    have dd := d3 (by omega)
    have a1 := ha _ (getD_mem (show 1 < as.length by omega))
    rw [show (0 : Int32) = nI 0 from rfl, nI_eq (by omega) (by decide)]
    refine ⟨fun y => ?_, fun y => ?_⟩
    · rw [if_neg (fun h => y h.1)] at k; exact k
    · rw [show (1 : Int32) = nI 1 from rfl, nI_add]
      refine one 1 (by omega) ?_
      rw [xqi_i]
      refine ⟨fun y2 => ?_, fun y2 => ?_⟩
      · have y2 := vz.mp y2
        rw [if_neg (fun h => y2 (fun i i1 i2 => by rw [show i = 2 by omega]; exact h.2))] at k
        exact k
      · have y2 := Classical.byContradiction (fun n => y2 (vz.mpr n))
        rw [nI_clamp (n := base + 1) (by omega), sk 1 (by omega), nI_clamp (n := as.getD 1 0) (by omega), rc_so R a1]
        rw [if_pos ⟨y, y2 2 (by omega) (by omega)⟩] at k
        exact ⟨vp_in_nI (by omega) (by decide), vp_in_nI (by omega) (by decide), k⟩
  · rw [if_neg (by omega), if_neg (by omega), if_neg (by omega), if_neg (by omega), if_pos z] at k
    refine o0 (fun q => ?_) (fun q => ?_)
    · rw [xqi_i]
      rw [if_pos q] at k
      exact ⟨fun n => absurd n (by decide), fun _ => k⟩
    · rw [xqi_i]
      rw [if_neg q] at k
      exact ⟨fun _ => k, fun n => absurd rfl n⟩
  · rw [if_neg (by omega), if_neg (by omega), if_neg (by omega), if_neg (by omega), if_neg (by omega), if_neg (by omega), if_neg (by omega), if_neg (by omega)] at k
    refine ⟨fun y => ?_, fun y => ?_⟩
    · rw [if_neg (fun h => y h.1)] at k; exact k
    · have y := Classical.byContradiction y
      refine o0 (fun q => ?_) (fun q => ?_)
      · rw [xqi_i]
        rw [if_pos ⟨y, q⟩, if_pos (by omega)] at k
        exact ⟨fun n => absurd n (by decide), fun _ => k⟩
      · rw [xqi_i]
        rw [if_neg (fun h => q h.2)] at k
        exact ⟨fun _ => k, fun n => absurd rfl n⟩
  · rw [if_neg (by omega), if_neg (by omega), if_neg (by omega), if_neg (by omega), if_neg (by omega), if_pos z] at k
    exact v_concat R w sk ht hb hl ha (by rw [xqi_i]; exact k)
  · rw [if_neg (by omega), if_neg (by omega), if_neg (by omega), if_neg (by omega), if_neg (by omega), if_neg (by omega)] at k
    have dd : 2 ≤ as.length := by omega
    have a1 := ha _ (getD_mem (show 1 < as.length by omega))
    have s1 := so_lt w a1
    unfold wp_Reader_sortOfArrayUse
    rw [nI_clamp (n := base) (by omega), sk0, nI_clamp (n := as.getD 0 0) (by omega), rc_so R a0]
    refine ⟨vp_in_nI (by omega) (by decide), vp_in_nI (by omega) (by decide), fun x1 e1 => ?_⟩
    subst e1
    refine p_isArray (by omega) ?_
    rw [xqi_i]
    by_cases y : bso B (as.getD 0 0) ≤ 127
    · rw [if_pos y]
      refine ⟨fun _ => ?_, fun n => absurd rfl n⟩
      rw [xqi_i]
      by_cases q : op = 45
      · rw [if_pos q, if_neg (by omega)] at k; exact k
      · rw [if_neg q, if_pos (by omega), if_neg (by omega)] at k; exact k
    · rw [if_neg y]
      refine ⟨fun n => absurd n (by decide), fun _ => ?_⟩
      rw [show (1 : Int32) = nI 1 from rfl, nI_add, nI_clamp (n := base + 1) (by omega), sk 1 (by omega), nI_clamp (n := as.getD 1 0) (by omega), rc_so R a1]
      refine ⟨vp_in_nI (by omega) (by decide), vp_in_nI (by omega) (by decide), ?_⟩
      refine p_indexWidth (by omega) ?_
      rw [xqi_i, nI_eq (by omega) (by omega), show (45 : Int32) = nI 45 from rfl, nI_eq (by omega) (by decide)]
      refine ⟨fun y2 => ⟨fun q => ?_, fun q => ?_⟩, fun y2 => ?_⟩
      · have d6 := d3 (by omega)
        have a2 := ha _ (getD_mem (show 2 < as.length by omega))
        have s2 := so_lt w a2
        rw [if_neg q, if_pos (by omega)] at k
        rw [show (2 : Int32) = nI 2 from rfl, nI_add, nI_clamp (n := base + 2) (by omega), sk 2 (by omega), nI_clamp (n := as.getD 2 0) (by omega), rc_so R a2]
        refine ⟨vp_in_nI (by omega) (by decide), vp_in_nI (by omega) (by decide), ?_⟩
        refine p_width (by omega) ?_
        rw [xqi_i, nI_eq (by omega) (by omega)]
        refine ⟨fun y3 => ?_, fun y3 => ?_⟩
        · rw [xqi_i]
          rw [if_neg (fun h => y3 h.2.2)] at k; exact k
        · rw [xqi_i]
          rw [if_pos ⟨by omega, y2, y3⟩] at k; exact k
      · rw [if_pos q, if_pos ⟨by omega, y2⟩] at k
        refine p_width (by omega) ?_
        rw [xqi_i, xqi_i]
        exact k
      · rw [xqi_i]
        by_cases q : op = 45
        · rw [if_pos q, if_neg (fun h => y2 h.2)] at k; exact k
        · rw [if_neg q, if_pos (by omega), if_neg (fun h => y2 h.2.1)] at k; exact k
  · rw [if_neg (by omega), if_neg (by omega), if_neg (by omega), if_neg (by omega), if_neg (by omega), if_neg (by omega), if_neg (by omega), if_neg (by omega)] at k
    refine ⟨fun y => ?_, fun y => ?_⟩
    · rw [if_neg (fun h => y h.1)] at k; exact k
    · have y := Classical.byContradiction y
      refine o0 (fun q => ?_) (fun q => ?_)
      · rw [xqi_i]
        rw [if_pos ⟨y, q⟩, if_neg (by omega)] at k
        exact ⟨fun n => absurd n (by decide), fun _ => k⟩
      · rw [xqi_i]
        rw [if_neg (fun h => q h.2)] at k
        exact ⟨fun _ => k, fun n => absurd rfl n⟩
end CAP
