/-! THE REFERENCE READS: symbols, atoms and the pile -/
def RP (p h nb : Nat) (σ : xS) : Prop := xi σ 50 29 = nI p ∧ xi σ 50 36 = nI h ∧ xi σ 50 38 = nI nb
def RPF (p h nb : Nat) (σ σ' : xS) : Prop := oS σ σ' ∧ (∀ a b, 70 ≤ a → a ≤ 75 → b < p → xi σ' a b = xi σ a b) ∧ (∀ b, b < h → xi σ' 76 b = xi σ 76 b) ∧ (∀ a b, 77 ≤ a → a ≤ 79 → b < nb → xi σ' a b = xi σ a b)
section RSY
variable {c : Nat → Nat} {l N : Nat} {B : Bk} {i j p h nb : Nat} {σ σ' σ2 : xS} {Q : xO → xS → Prop} {E : Nat → Nat × Nat × Bool} {Lt : Nat → Nat}
theorem RPF.refl (p h nb : Nat) (σ : xS) : RPF p h nb σ σ := ⟨oS.refl σ, fun _ _ _ _ _ => rfl, fun _ _ => rfl, fun _ _ _ _ _ => rfl⟩
theorem RPF.trans (a : RPF p h nb σ σ') (b : RPF p h nb σ' σ2) : RPF p h nb σ σ2 := ⟨a.1.trans b.1, fun x y q1 q2 q3 => (b.2.1 x y q1 q2 q3).trans (a.2.1 x y q1 q2 q3), fun y q => (b.2.2.1 y q).trans (a.2.2.1 y q), fun x y q1 q2 q3 => (b.2.2.2 x y q1 q2 q3).trans (a.2.2.2 x y q1 q2 q3)⟩
theorem RPF.le {p' h' nb' : Nat} (a : RPF p h nb σ σ') (h1 : p' ≤ p) (h2 : h' ≤ h) (h3 : nb' ≤ nb) : RPF p' h' nb' σ σ' := ⟨a.1, fun x y q1 q2 q3 => a.2.1 x y q1 q2 (by omega), fun y q => a.2.2.1 y (by omega), fun x y q1 q2 q3 => a.2.2.2 x y q1 q2 (by omega)⟩
theorem oE.P {J : List Nat} (o : oE J σ σ') (hJ : ∀ b ∈ J, rcl 50 b) : RPF p h nb σ σ' := ⟨o.S hJ, fun a b q1 q2 _ => o.ne (by omega), fun b _ => o.ne (by omega), fun a b q1 q2 _ => o.ne (by omega)⟩
theorem oE.P10 (o : oE [10] σ σ') : RPF p h nb σ σ' := o.P (fun b hb => by rw [List.mem_singleton.mp hb]; unfold rcl; omega)
theorem oA.P (o : oA σ σ') : RPF p h nb σ σ' := ⟨o.S, fun a b q1 q2 _ => o.1 a b (by omega) (by omega), fun b _ => o.1 76 b (by omega) (by omega), fun a b q1 q2 _ => o.1 a b (by omega) (by omega)⟩
theorem oT.P (o : oT σ σ') : RPF p h nb σ σ' := ⟨o.S, fun a b q1 q2 _ => o.1 a b (by omega) (by omega), fun b _ => o.1 76 b (by omega) (by omega), fun a b q1 q2 _ => o.1 a b (by omega) (by omega)⟩
theorem RP.e {J : List Nat} (a : RP p h nb σ) (o : oE J σ σ') (hJ : ∀ b ∈ [29, 36, 38], b ∉ J) : RP p h nb σ' := ⟨(o.at (hJ 29 (by decide))).trans a.1, (o.at (hJ 36 (by decide))).trans a.2.1, (o.at (hJ 38 (by decide))).trans a.2.2⟩
theorem RP.A (a : RP p h nb σ) (o : oA σ σ') : RP p h nb σ' := ⟨(o.1 50 29 (by omega) (by omega)).trans a.1, (o.1 50 36 (by omega) (by omega)).trans a.2.1, (o.1 50 38 (by omega) (by omega)).trans a.2.2⟩
end RSY
section RSY2
variable (c : Nat → Nat) (l N : Nat)
/-- the bound words as the reference holds them: Lt b is the pile's place of the let that binds word b -/
def RE (E : Nat → Nat × Nat × Bool) (Lt : Nat → Nat) (p nb : Nat) (σ : xS) : Prop := ∀ b, b < nb → (tK c l (E b).1 = 5 ∧ tR c l (E b).1 = none ∧ (E b).1 < N) ∧ xi σ 77 b = nI (E b).1 ∧ xi σ 79 b = nI (Lt b) ∧ Lt b < p ∧ xi σ 70 (Lt b) = nI (if (E b).2.2 = true then 2 else 1) ∧ ((E b).2.2 = true → xi σ 78 b = nI (E b).2.1)
end RSY2
section RSY3
variable {c : Nat → Nat} {l N : Nat} {B : Bk} {i j p h nb : Nat} {σ σ' σ2 : xS} {Q : xO → xS → Prop} {E : Nat → Nat × Nat × Bool} {Lt : Nat → Nat}
theorem RE.keep (a : RE c l N E Lt p nb σ) (f : RPF p h nb σ σ') : RE c l N E Lt p nb σ' := fun b hb => by
  obtain ⟨e1, e2, e3, e4, e5, e6⟩ := a b hb
  exact ⟨e1, (f.2.2.2 77 b (by decide) (by decide) hb).trans e2, (f.2.2.2 79 b (by decide) (by decide) hb).trans e3, e4, (f.2.1 70 _ (by decide) (by decide) e4).trans e5, fun q => (f.2.2.2 78 b (by decide) (by decide) hb).trans (e6 q)⟩
theorem r_tf (H : okN c l N) (g : gB B) (S : RS c l N B i σ) (h5 : tR c l i = some 7 ∨ tR c l i = some 8) {vis : Vis} (kf : ∀ e σ' x, pAt c l vis B i = .error e → RFl B e σ σ' → Q (.inl (some (.int x))) σ') (ko : ∀ r σ', pAt c l vis B i = .ok r → RS c l N r.2.1 r.2.2 σ' → oA σ σ' → Q (.inl (some (.int (nI r.1)))) σ') : w_VectorSolverModel_symbol_84 Q σ := by
  have n1 := H.1
  obtain ⟨T, P, R, e, f, x10, hi, -⟩ := id S
  obtain ⟨p1, p2, p3, p4⟩ := P.t hi
  have k5 : tK c l i = 5 := by rcases h5 with q | q <;> exact (tok_R q).1
  have vi : vp_in (nI i) 65537 := vp_in_nI (by omega) (by decide)
  have u : pAt c l vis B i = eb (pMk B (tF c l i) 48 0 0 (if tR c l i = some 7 then 1#64 else 0#64) [] 1) fun r => .ok (r.1, r.2, i) := by
    unfold pAt
    rw [if_pos k5, if_pos h5]
  have ma := g.1.1.1
  unfold w_VectorSolverModel_symbol_84
  rw [x10, nI_clamp (n := i) (by omega), p2]
  refine ⟨vi, r_make (B := B) (o := 1) (ix := 0) (wd := 0) (wt := 1) (beg := tF c l i) R g e x10 (by omega) (by decide) (fun er σ' hm f => ?_) (fun s1 b1 b2 M => ?_)⟩
  · rw [xqi_i]
    exact ⟨fun _ => kf er σ' _ (u.trans (eb_er (hm _ _ _ _ _))) f, fun z => absurd z f.2.2.2.2.1⟩
  rw [xqi_i]
  rw [eb_ok (pMk_ok b1 b2)] at u
  have fr := M.2.1
  have vt : vp_in (nI (bma B)) 2000 := vp_in_nI (by omega) (by decide)
  rw [fr 50 4 (by omega) (by omega), e, fr 50 10 (by omega) (by omega), x10, nI_clamp (n := i) (by omega), fr 55 i (by omega) (by omega), p4, show (46 : Int32) = nI (ridx 7) from rfl, rix_eq (fun m h => tR_lt h) (by decide), nI_clamp (n := bma B) (by omega)]
  have fin : ∀ (v : BitVec 64) s5, v = (if tR c l i = some 7 then 1#64 else 0#64) → s5 = xpl s1 64 (bma B) (jL v) → Q (.inl (some (.int (nI (bma B))))) s5 := fun v s5 hv e5 => by
    obtain ⟨R2, A2⟩ := MK.const (σ2 := s5) (bits := if tR c l i = some 7 then 1#64 else 0#64) R g (by decide) M (fun a b => by rw [e5, xi_pl]) (fun a b z => by rw [e5, xl_pl, if_neg z]) (by rw [e5, xl_pl, if_pos ⟨rfl, rfl⟩, hv]) (by rw [e5]; rfl)
    exact ko _ s5 u (S.A A2 R2) A2
  refine ⟨fun z => absurd rfl z, fun _ => ⟨vi, fun z => ⟨vt, fun s4 e4 => fin 0#64 s4 (if_neg z).symm e4⟩, fun z => ⟨vt, fun s5 e5 => fin 1#64 s5 (if_pos z).symm e5⟩⟩⟩
theorem r_sym (H : okN c l N) (g : gB B) (S : RS c l N B i σ) (h5 : tK c l i = 5) (hE : RE c l N E Lt p nb σ) (hb : xi σ 50 38 = nI nb) (hn : nb ≤ 16) (hp : p < 64) (kf : ∀ e σ' x, pAt c l (vsl c l E nb) B i = .error e → RFl B e σ σ' → Q (.inl (some (.int x))) σ') (ko : ∀ r σ', pAt c l (vsl c l E nb) B i = .ok r → RS c l N r.2.1 r.2.2 σ' → oA σ σ' → Q (.inl (some (.int (nI r.1)))) σ') : wp_VectorSolverModel_symbol Q σ := by
  have n1 := H.1
  obtain ⟨T, P, R, e, f, x10, hi, -⟩ := id S
  obtain ⟨p1, p2, p3, p4⟩ := P.t hi
  have vi : vp_in (nI i) 65537 := vp_in_nI (by omega) (by decide)
  have n5 := g.1.1.2.2.2.2.2.1
  have key : ∀ b, b ≤ nb → (∀ t, vlk (vsl c l E b) (tW c l i) = some t → vlk (vsl c l E nb) (tW c l i) = some t) → (vlk (vsl c l E b) (tW c l i) = none → vlk (vsl c l E nb) (tW c l i) = none) → w_VectorSolverModel_symbol_7 Q (b + 1) (nI b - 1) σ := by
    intro b
    induction b with
    | zero =>
      intro _ _ hno
      have hno := hno rfl
      unfold w_VectorSolverModel_symbol_7
      refine ⟨fun _ => ?_, fun z => absurd (by decide) z⟩
      rw [x10, nI_clamp (n := i) (by omega), p4, show (46 : Int32) = nI (ridx 7) from rfl, rix_eq (fun m h => tR_lt h) (by decide), show (47 : Int32) = nI (ridx 8) from rfl, rix_eq (fun m h => tR_lt h) (by decide)]
      refine ⟨vi, fun z => r_tf H g S (.inl z) kf ko, fun z => ⟨vi, fun y => ?_, fun y => r_tf H g S (.inr y) kf ko⟩⟩
      have u : pAt c l (vsl c l E nb) B i = match fnm B (tW c l i) with
        | some m => .ok (B.1 18 m, B, i)
        | none => .error (5, tF c l i) := by
        unfold pAt
        rw [if_pos h5, if_neg (fun q => by rcases q with q | q; exact z q; exact y q), hno]
        rfl
      refine r_findN H g S h5 ?_
      rw [xqi_i]
      cases q : fnm B (tW c l i) with
      | none =>
        rw [q] at u
        refine ⟨fun _ => ?_, fun w => absurd (by decide) w⟩
        unfold w_VectorSolverModel_symbol_151
        rw [x10, nI_clamp (n := i) (by omega), p2]
        refine ⟨vi, r_wantF (B := B) (ek := 5) (ep := tF c l i) R e x10 (by omega) rfl rfl rfl (by decide) (fun σ' f => ?_)⟩
        rw [xqi_i]
        exact ⟨fun _ => kf _ σ' _ u f, fun w => absurd rfl w⟩
      | some m =>
        rw [q] at u
        have hm := (fnm_some q).1
        refine ⟨fun w => ?_, fun _ => ?_⟩
        · rw [show supI (some m) = nI m from rfl, nI_lt0 (by omega)] at w
          exact absurd w id
        · unfold w_VectorSolverModel_symbol_151
          refine ⟨S.v H, r_wantT e (by decide) ?_⟩
          rw [xqi_i]
          refine ⟨fun w => absurd w (by decide), fun _ => ?_⟩
          rw [show supI (some m) = nI m from rfl, nI_clamp (n := m) (by omega), (R.2.2.2.1 m hm).2]
          exact ⟨vp_in_nI (by omega) (by decide), ko _ σ u S (oA.refl _)⟩
    | succ b ih =>
      intro hb' hs hno
      obtain ⟨⟨e1, e1', e1''⟩, e2, e3, e4, e5, e6⟩ := hE b (by omega)
      have eb : (nI (b + 1) : Int32) - 1 = nI b := by rw [show (1 : Int32) = nI 1 from rfl, nI_sub (by omega), Nat.add_sub_cancel]
      have em : (nI b : Int32) + -1 = nI b - 1 := by rw [Int32.sub_eq_add_neg]
      rw [eb]
      unfold w_VectorSolverModel_symbol_7
      rw [nI_lt0 (by omega), nI_clamp (n := b) (by omega), e3, nI_clamp (n := Lt b) (by omega), e5, show (2 : Int32) = nI 2 from rfl, nI_eq (by split <;> omega) (by decide), em]
      refine ⟨fun z => absurd z id, fun _ => ⟨vp_in_nI (by omega) (by decide), vp_in_nI (by omega) (by decide), fun z x10' ex => ?_, fun z => ?_⟩⟩
      · have z : ¬ (E b).2.2 = true := fun q => z (if_pos q)
        subst ex
        have ev : vsl c l E (b + 1) = vsl c l E b := by rw [vsl_s, if_neg z]
        rw [ev] at hs hno
        exact ih (by omega) hs hno
      · have z : (E b).2.2 = true := by
          apply Classical.byContradiction
          intro q
          rw [if_neg q] at z
          omega
        have ev : vsl c l E (b + 1) = (tW c l (E b).1, (E b).2.1) :: vsl c l E b := by rw [vsl_s, if_pos z]
        rw [ev] at hs hno
        rw [e2, x10]
        refine ⟨vp_in_nI (by omega) (by decide), r_same H T P (by omega) hi e1 h5 ?_⟩
        rw [xqi_i]
        by_cases q : tW c l (E b).1 = tW c l i
        · rw [decide_eq_true q]
          refine ⟨fun w => absurd w (by decide), fun _ => ⟨vp_in_nI (by omega) (by decide), ?_⟩⟩
          rw [e6 z]
          have hv := hs (E b).2.1 (by rw [vlk, if_pos q])
          have nr : ∀ n, tR c l i ≠ some n := fun n hn => by
            have t1 := tok_2 (c := c) (l := l) (i := i) (by omega) (by omega)
            have t2 := tok_2 (c := c) (l := l) (i := (E b).1) (by omega) (by omega)
            have k1 : kow c (tF c l i) (tE c l i) = 5 := t1.1.symm.trans h5
            have k2 : kow c (tF c l (E b).1) (tE c l (E b).1) = 5 := t2.1.symm.trans e1
            have r1 := t1.2.2.1
            have r2 := t2.2.2.1
            rw [if_pos k1] at r1
            rw [if_pos k2] at r2
            have q' : wtx c (tF c l (E b).1) (tE c l (E b).1) = wtx c (tF c l i) (tE c l i) := q
            rw [q', ← r1, hn, e1'] at r2
            cases r2
          refine ko ((E b).2.1, B, i) σ ?_ S (oA.refl _)
          unfold pAt
          rw [if_pos h5, if_neg (fun w => by rcases w with w | w; exact nr _ w; exact nr _ w), hv]
        · rw [decide_eq_false q]
          refine ⟨fun _ x13 ex => ?_, fun w => absurd rfl w⟩
          subst ex
          refine ih (by omega) (fun t ht => hs t ?_) (fun ht => hno ?_)
          · rw [vlk, if_neg q]; exact ht
          · rw [vlk, if_neg q]; exact ht
  unfold wp_VectorSolverModel_symbol
  intro x1 e1
  rw [hb] at e1
  subst e1
  exact ⟨_, key nb (Nat.le_refl _) (fun t ht => ht) (fun ht => ht)⟩
end RSY3
