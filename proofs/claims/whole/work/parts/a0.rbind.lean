/-! THE REFERENCE READS: a word is bound -/
def LL (nb p : Nat) (Lt : Nat → Nat) : Nat → Nat := fun b => if b < nb then Lt b else p
section RBI
variable {c : Nat → Nat} {l N : Nat} {B : Bk} {i j p h nb m : Nat} {σ σ' : xS} {Q : xO → xS → Prop} {E : Nat → Nat × Nat × Bool} {Lt : Nat → Nat} {P : Nat → Nat × Nat}
theorem RE.up {p' : Nat} (a : RE c l N E Lt p nb σ) (hp : p ≤ p') : RE c l N E Lt p' nb σ := fun b hb => by
  obtain ⟨e1, e2, e3, e4, e5, e6⟩ := a b hb
  exact ⟨e1, e2, e3, by omega, e5, e6⟩
theorem n_bind (h : RX σ) (k : Q (.inl none) σ) : wp_VectorSolverModel_bind Q σ := by
  unfold wp_VectorSolverModel_bind
  refine n_need h ?_
  rw [xqi_i]
  exact ⟨fun z => absurd rfl z, fun _ => k⟩
theorem LL_lt {b : Nat} (h : b < nb) : LL nb p Lt b = Lt b := if_pos h
theorem LL_ge {b : Nat} (h : ¬ b < nb) : LL nb p Lt b = p := if_neg h
theorem EE_lt {b : Nat} {s : Bool} (h : b < nb) : EE P nb E s b = E b := if_pos h
theorem EE_ge {b : Nat} {s : Bool} : EE P nb E s (nb + b) = ((P b).1, (P b).2, s) := by
  show (if nb + b < nb then _ else _) = _
  rw [if_neg (by omega), Nat.add_sub_cancel_left]
/-- new words of a let at pile place p -/
def RL (c : Nat → Nat) (l N : Nat) (P : Nat → Nat × Nat) (nb : Nat) (E : Nat → Nat × Nat × Bool) (Lt : Nat → Nat) (p m : Nat) (σ : xS) : Prop := RE c l N (EE P nb E false) (LL nb p Lt) (p + 1) (nb + m) σ ∧ (∀ k, k < m → xi σ 78 (nb + k) = nI (P k).2) ∧ (∀ b, b < nb → Lt b < p) ∧ xi σ 70 p = nI 1
theorem RL.keep (a : RL c l N P nb E Lt p m σ) (f : RPF (p + 1) h (nb + m) σ σ') : RL c l N P nb E Lt p m σ' := ⟨a.1.keep f, fun k hk => (f.2.2.2 78 _ (by decide) (by decide) (by omega)).trans (a.2.1 k hk), a.2.2.1, (f.2.1 70 p (by decide) (by decide) (by omega)).trans a.2.2.2⟩
/-- at token i stands the begin bracket of a binding -/
theorem r_bind (H : okN c l N) (S : RS c l N B i σ) (hiN : i < N) (hL : RL c l N P nb E Lt p m σ) (hP : RP (p + 1) h (nb + m) σ) (hn : nb + m ≤ 16) (hp : p < 63)
    {α : Type} (X K : PE α) (hX : X = eb (pX c l (i + 1) 5) fun _ => if tR c l (i + 1) ≠ none ∨ vlk (nvl c l P m) (tW c l (i + 1)) ≠ none then .error (6, tF c l (i + 1)) else if 16 ≤ nb + m then .error (11, tF c l (i + 1)) else K)
    (kf : ∀ e σ', X = .error e → RFl B e σ σ' → Q (.inl none) σ')
    (ko : ∀ σ', X = K → tK c l (i + 1) = 5 → nb + m < 16 → RS c l N B (i + 1) σ' → RP (p + 1) h (nb + m + 1) σ' → RPF (p + 1) h (nb + m) σ σ' → (∀ t, RE c l N (EE (fun k => if k = m then (i + 1, t) else P k) nb E false) (LL nb p Lt) (p + 1) (nb + m + 1) σ') → Q (.inl none) σ') : wp_VectorSolverModel_bind Q σ := by
  have n1 := H.1
  unfold wp_VectorSolverModel_bind
  refine r_need (k0 := 5) H (by decide) (S.n hiN) (fun e σ' hh f => ?_) (fun s1 h1 S1 o1 => ?_)
  · rw [xqi_i]
    exact ⟨fun z => absurd rfl z, fun _ => kf e σ' (hX.trans (eb_er hh)) f⟩
  rw [xqi_i]
  refine ⟨fun _ => ?_, fun z => absurd z (by decide)⟩
  rw [eb_ok h1] at hX
  have k5 := pX_i h1
  have hj := S1.2.2.2.2.2.2.1
  obtain ⟨p1, p2, p3, p4⟩ := S1.2.1.t hj
  have x10 := S1.2.2.2.2.2.1
  have vj : vp_in (nI (i + 1)) 65537 := vp_in_nI (by omega) (by decide)
  have b1 := H.lt (i := i + 1) hj (by omega)
  have L1 := hL.keep (h := h) o1.P10
  have P1 := hP.e o1 (by decide)
  have vk : ∀ m', vlk (nvl c l P m') (tW c l (i + 1)) ≠ none ↔ ∃ k, k < m' ∧ tW c l (P k).1 = tW c l (i + 1) := by
    intro m'
    induction m' with
    | zero => exact ⟨fun h => absurd rfl h, fun ⟨k, h, _⟩ => absurd h (by omega)⟩
    | succ m' ih =>
      show vlk ((tW c l (P m').1, (P m').2) :: nvl c l P m') (tW c l (i + 1)) ≠ none ↔ _
      rw [vlk]
      by_cases q : tW c l (P m').1 = tW c l (i + 1)
      · rw [if_pos q]
        exact ⟨fun _ => ⟨m', by omega, q⟩, fun _ => by simp⟩
      · rw [if_neg q, ih]
        constructor
        · rintro ⟨k, k1, k2⟩; exact ⟨k, by omega, k2⟩
        · rintro ⟨k, k1, k2⟩
          by_cases e : k = m'
          · rw [e] at k2; exact absurd k2 q
          · exact ⟨k, by omega, k2⟩
  -- when all words have been looked at
  have fin : ∀ b : Bool, (b = true ↔ (tR c l (i + 1) ≠ none ∨ vlk (nvl c l P m) (tW c l (i + 1)) ≠ none)) → ((¬ bI b = 0 → w_VectorSolverModel_bind_96 Q 0 s1) ∧ (bI b = 0 → w_VectorSolverModel_bind_96 Q 1 s1)) := fun b hb => by
    refine ⟨fun z => ?_, fun z => ?_⟩
    · have hb : tR c l (i + 1) ≠ none ∨ vlk (nvl c l P m) (tW c l (i + 1)) ≠ none := hb.mp (by cases b with
        | true => rfl
        | false => exact absurd rfl z)
      unfold w_VectorSolverModel_bind_96
      rw [x10, nI_clamp (n := i + 1) (by omega), p2]
      refine ⟨vj, r_wantF (B := B) (ek := 6) (ep := tF c l (i + 1)) S1.2.2.1 S1.2.2.2.1 x10 (by omega) rfl rfl rfl (by decide) (fun σ' f => ?_)⟩
      rw [xqi_i]
      have fe := kf _ σ' (hX.trans (if_pos hb)) (RFl.e o1 (by decide) f)
      have w126 : ∀ t1, w_VectorSolverModel_bind_126 Q t1 σ' := fun t1 => by
        unfold w_VectorSolverModel_bind_126
        refine ⟨f.2.2.2.2.v, n_want f.2.2.2.2.1 ?_⟩
        rw [xqi_i]
        exact ⟨fun _ => fe, fun y => absurd rfl y⟩
      exact ⟨fun _ => w126 _, fun _ => w126 _⟩
    · have hb : ¬ (tR c l (i + 1) ≠ none ∨ vlk (nvl c l P m) (tW c l (i + 1)) ≠ none) := fun y => by
        rw [hb.mpr y] at z
        exact absurd z (by decide)
      rw [if_neg hb] at hX
      unfold w_VectorSolverModel_bind_96
      refine ⟨S1.v H, r_wantT S1.2.2.2.1 (by decide) ?_⟩
      rw [xqi_i, P1.2.2, show (16 : Int32) = nI 16 from rfl, nI_leI (by decide) (by omega)]
      refine ⟨fun y => ?_, fun y => ?_⟩
      · unfold w_VectorSolverModel_bind_126
        rw [x10, nI_clamp (n := i + 1) (by omega), p2]
        refine ⟨vj, r_wantF (B := B) (ek := 11) (ep := tF c l (i + 1)) S1.2.2.1 S1.2.2.2.1 x10 (by omega) rfl rfl rfl (by decide) (fun σ' f => ?_)⟩
        rw [xqi_i]
        exact ⟨fun _ => kf _ σ' (hX.trans (if_pos y)) (RFl.e o1 (by decide) f), fun y => absurd rfl y⟩
      · rw [if_neg y] at hX
        unfold w_VectorSolverModel_bind_126
        refine ⟨S1.v H, r_wantT S1.2.2.2.1 (by decide) ?_⟩
        rw [xqi_i, P1.2.2, nI_clamp (n := nb + m) (by omega), x10]
        refine ⟨fun w => absurd w (by decide), fun _ => ⟨vp_in_nI (by omega) (by decide), fun s7 e7 => ?_⟩⟩
        have c7 : ∀ a b, ¬ (a = 77 ∧ b = nb + m) → xi s7 a b = xi s1 a b := fun a b q => by rw [e7, xi_pi, if_neg q]
        rw [c7 50 38 (by omega), P1.2.2, nI_clamp (n := nb + m) (by omega), c7 50 29 (by omega), P1.1, show (1 : Int32) = nI 1 from rfl, nI_sub (by omega), Nat.add_sub_cancel]
        refine ⟨vp_in_nI (by omega) (by decide), fun s8 e8 s9 e9 => ?_⟩
        have y38 : xi s8 50 38 = nI (nb + m) := by rw [e8, xi_pi, if_neg (by omega), c7 50 38 (by omega)]; exact P1.2.2
        rw [y38, nI_add] at e9
        have c9 : ∀ a b, ¬ (a = 77 ∧ b = nb + m) → ¬ (a = 79 ∧ b = nb + m) → ¬ (a = 50 ∧ b = 38) → xi s9 a b = xi s1 a b := fun a b q1 q2 q3 => by rw [e9, xi_pi, if_neg q3, e8, xi_pi, if_neg q2, c7 a b q1]
        have l9 : ∀ a b, xl s9 a b = xl s1 a b := fun a b => by rw [e9, xl_pi, e8, xl_pi, e7, xl_pi]
        have b9 : xb s9 = xb s1 := by rw [e9, e8, e7]; rfl
        have z77 : xi s9 77 (nb + m) = nI (i + 1) := by rw [e9, xi_pi, if_neg (by omega), e8, xi_pi, if_neg (by omega), e7, xi_pi, if_pos ⟨rfl, rfl⟩]
        have z79 : xi s9 79 (nb + m) = nI p := by rw [e9, xi_pi, if_neg (by omega), e8, xi_pi, if_pos ⟨rfl, rfl⟩]
        have z38 : xi s9 50 38 = nI (nb + m + 1) := by rw [e9, xi_pi, if_pos ⟨rfl, rfl⟩]
        have F9 : RPF (p + 1) h (nb + m) s1 s9 := ⟨⟨fun a b q => c9 a b (fun z => q (by unfold rcl; omega)) (fun z => q (by unfold rcl; omega)) (fun z => q (by unfold rcl; omega)), fun a b _ => l9 a b, b9⟩, fun a b q1 q2 q3 => c9 a b (by omega) (by omega) (by omega), fun b q => c9 76 b (by omega) (by omega) (by omega), fun a b q1 q2 q3 => c9 a b (by omega) (by omega) (by omega)⟩
        have L9 := L1.keep F9
        refine ko s9 hX k5 (by omega) (S1.k F9.1 (c9 50 4 (by omega) (by omega) (by omega)) (c9 50 5 (by omega) (by omega) (by omega)) (c9 50 10 (by omega) (by omega) (by omega)) (S1.2.2.1.k (fun j hj => c9 50 j (by omega) (by omega) (fun z => by rw [z.2] at hj; revert hj; decide)) (fun k j hk => c9 k j (by omega) (by omega) (by omega)) (fun j => l9 64 j))) ⟨(c9 50 29 (by omega) (by omega) (by omega)).trans P1.1, (c9 50 36 (by omega) (by omega) (by omega)).trans P1.2.1, z38⟩ ((o1.P10).trans F9) (fun t b hb' => ?_)
        by_cases q : b = nb + m
        · have ee : EE (fun k => if k = m then (i + 1, t) else P k) nb E false b = (i + 1, t, false) := by
            rw [q, EE_ge, if_pos rfl]
          rw [ee, q, LL_ge (by omega)]
          refine ⟨⟨k5, ?_, b1⟩, z77, z79, by omega, ?_, fun x => (by cases x)⟩
          · apply Classical.byContradiction
            intro w
            exact hb (.inl w)
          · exact L9.2.2.2
        · have ee : EE (fun k => if k = m then (i + 1, t) else P k) nb E false b = EE P nb E false b := by
            by_cases y : b < nb
            · rw [EE_lt y, EE_lt y]
            · obtain ⟨d, rfl⟩ : ∃ d, b = nb + d := ⟨b - nb, by omega⟩
              rw [EE_ge, EE_ge, if_neg (by omega)]
          rw [ee]
          exact L9.1 b (by omega)
  -- the loop over all bound words
  have key := loop_i (σ := Bool) (fun f q b => w_VectorSolverModel_bind_30 Q f (bI b) (nI q) s1) (fun q b => (b = true ↔ (tR c l (i + 1) ≠ none ∨ ∃ k, nb + k < q ∧ k < m ∧ tW c l (P k).1 = tW c l (i + 1)))) (nb + m) (fun f b hI => ?_) (fun f q b hq hI hs => ?_)
  · rw [x10, nI_clamp (n := i + 1) (by omega), p4]
    have nl : (rix (tR c l (i + 1)) < 0) ↔ tR c l (i + 1) = none := by
      have q := rix_neg (r := tR c l (i + 1)) (fun m h => tR_lt h)
      constructor
      · intro w
        apply Classical.byContradiction
        intro y
        exact absurd (q.mpr y) (Int32.not_le.mpr w)
      · intro w
        exact Int32.not_le.mp (fun y => (q.mp y) w)
    rw [nl]
    refine ⟨vj, fun z => ⟨_, key (nb + m + 1) 0 false (by omega) (by omega) ⟨fun y => (by cases y), fun y => ?_⟩⟩, fun z => ⟨_, key (nb + m + 1) 0 true (by omega) (by omega) ⟨fun _ => .inl z, fun _ => rfl⟩⟩⟩
    rcases y with y | ⟨k, k1, _⟩
    · exact absurd z y
    · omega
  · unfold w_VectorSolverModel_bind_30
    rw [P1.2.2]
    refine ⟨fun _ => fin b ?_, fun z => absurd (Int32.le_refl _) z⟩
    rw [hI, vk]
    constructor
    · rintro (w | ⟨k, _, k2, k3⟩)
      · exact .inl w
      · exact .inr ⟨k, k2, k3⟩
    · rintro (w | ⟨k, k2, k3⟩)
      · exact .inl w
      · exact .inr ⟨k, by omega, k2, k3⟩
  · have st : (nI q : Int32) + 1 = nI (q + 1) := by rw [show (1 : Int32) = nI 1 from rfl, nI_add]
    obtain ⟨⟨e1, e1', e1''⟩, e2, e3, e4, e5, e6⟩ := L1.1 q hq
    unfold w_VectorSolverModel_bind_30
    rw [P1.2.2, nI_leI (by omega) (by omega)]
    refine ⟨fun z => absurd z (by omega), fun _ => ?_⟩
    have yes : (tR c l (i + 1) ≠ none ∨ ∃ k, nb + k < q + 1 ∧ k < m ∧ tW c l (P k).1 = tW c l (i + 1)) → w_VectorSolverModel_bind_74 Q (w_VectorSolverModel_bind_30 Q f) (nI q) s1 := fun z => by
      unfold w_VectorSolverModel_bind_74
      intro x10 e10
      rw [e10, st]
      exact hs true ⟨fun _ => z, fun _ => rfl⟩
    cases b with
    | true =>
      refine ⟨fun _ => yes ?_, fun z => absurd z (by decide)⟩
      rcases hI.mp rfl with w | ⟨k, k1, k2⟩
      · exact .inl w
      · exact .inr ⟨k, by omega, k2⟩
    | false =>
      have no : ¬ (tR c l (i + 1) ≠ none ∨ ∃ k, nb + k < q ∧ k < m ∧ tW c l (P k).1 = tW c l (i + 1)) := fun y => by cases hI.mpr y
      refine ⟨fun z => absurd rfl z, fun _ => ?_⟩
      rw [nI_clamp (n := q) (by omega), e3, P1.1, show (1 : Int32) = nI 1 from rfl, nI_sub (by omega), Nat.add_sub_cancel, nI_eq (by omega) (by omega)]
      refine ⟨vp_in_nI (by omega) (by decide), fun z x11 e11 => ?_, fun z => ?_⟩
      · have ql : q < nb := by
          apply Classical.byContradiction
          intro w
          rw [LL_ge w] at z
          exact z rfl
        rw [nI_add] at e11
        rw [e11]
        refine hs false ⟨fun y => (by cases y), fun y => absurd ?_ no⟩
        rcases y with w | ⟨k, k1, k2⟩
        · exact .inl w
        · omega
      · have ql : ¬ q < nb := fun w => by
          rw [LL_lt w] at z
          have := L1.2.2.1 q w
          omega
        obtain ⟨d, rfl⟩ : ∃ d, q = nb + d := ⟨q - nb, by omega⟩
        rw [EE_ge] at e1 e1' e1'' e2
        dsimp only at e1 e1' e1'' e2
        rw [e2, x10]
        refine ⟨vp_in_nI (by omega) (by decide), r_same H S1.1 S1.2.1 (by omega) hj e1 k5 ?_⟩
        rw [xqi_i]
        by_cases y : tW c l (P d).1 = tW c l (i + 1)
        · rw [decide_eq_true y]
          exact ⟨fun w => absurd w (by decide), fun _ => yes (.inr ⟨d, by omega, by omega, y⟩)⟩
        · rw [decide_eq_false y]
          refine ⟨fun _ x14 e14 => ?_, fun w => absurd rfl w⟩
          rw [nI_add] at e14
          rw [e14]
          refine hs false ⟨fun y => (by cases y), fun x => absurd ?_ no⟩
          rcases x with w | ⟨k, k1, k2, k3⟩
          · exact .inl w
          · refine .inr ⟨k, ?_, k2, k3⟩
            by_cases e : k = d
            · rw [e] at k3; exact absurd k3 y
            · omega
end RBI
