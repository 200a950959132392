/-! THE CLASS READS: commands and the whole text -/
section CCMD
variable {c : Nat → Nat} {l N : Nat} {B : Bk} {top base nb i j : Nat} {σ σ' : xS} {Q : xO → xS → Prop}
theorem v_define (H : okN c l N) (g : gB B) (S : CS0 c l N B 0 0 j σ) (ho : od c l j = 70001) (kf : ∀ e σ', pDf c l B j = .error e → FL B e σ σ' → Q (.inr 0) σ') (ko : ∀ r σ', pDf c l B j = .ok r → CS c l N r.1 0 0 r.2 σ' → FR 0 0 σ σ' → Q (.inl none) σ') : wp_Reader_define Q σ := by
  obtain ⟨X, hX⟩ : ∃ X, X = pDf c l B j := ⟨_, rfl⟩
  rw [← hX] at kf ko
  unfold pDf at hX
  unfold wp_Reader_define
  refine v_newName H g S (fun e σ' h f => ?_) (fun s1 h1 S1 o1 => ?_)
  · rw [xqv_e]
    exact kf e σ' (hX.trans (eb_er h)) f
  rw [xqv_v]
  rw [eb_ok h1] at hX
  obtain ⟨n1, n2, n3, n4, n5⟩ := pNew_i h1
  have b1 := H.lt (i := j) S1.2.2.2.2.2.2.2.1 (by omega)
  have t1 := (tok_2 (c := c) (l := l) (i := j) (by omega) (by omega)).2.1
  have ca := S1.2.2.2.2.2.2.2.2
  intro x3 e3 x4 e4
  rw [ca.2.1] at e3
  rw [ca.2.2.1] at e4
  subst e3 e4
  refine v_expect (k0 := 0) H (by decide) (S1.n b1) (fun e σ' h f => ?_) (fun s2 h2 S2 o2 => ?_)
  · rw [xqv_e]
    exact kf e σ' (hX.trans (eb_er h)) (FL.j o1 f)
  rw [xqv_v]
  rw [eb_ok h2] at hX
  have k2 := pX_i h2
  have b2 := H.lt (i := j + 1) b1 (by omega)
  have t2 := (tok_0 k2).1
  rw [show j + 1 + 1 = j + 2 by omega] at t2
  refine v_expect (k0 := 1) H (by decide) (S2.n b2) (fun e σ' h f => ?_) (fun s3 h3 S3 o3 => ?_)
  · rw [xqv_e]
    exact kf e σ' (hX.trans (eb_er h)) (FL.j (o1.trans o2) f)
  rw [xqv_v]
  rw [show j + 1 + 1 = j + 2 by omega] at h3 S3
  rw [eb_ok h3] at hX
  have k3 := pX_i h3
  have b3 := H.lt (i := j + 2) b2 (by omega)
  have t3 := H.t1 (i := j + 2) b2 k3
  rw [show j + 2 + 1 = j + 3 by omega] at t3
  refine v_sort H (S3.n b3) (fun e σ' h f => ?_) (fun s k4 s4 h4 S4 o4 => ?_)
  · rw [xqi_e]
    exact kf e σ' (hX.trans (eb_er h)) (FL.j ((o1.trans o2).trans o3) f)
  rw [xqi_i]
  rw [show j + 2 + 1 = j + 3 by omega] at h4
  rw [eb_ok h4] at hX
  obtain ⟨q1, q2, q3, q4, q5⟩ := pSo_i H (i := j + 3) b3 h4
  refine v_next H (S4.n q4) (fun s5 S5 o5 => ?_)
  rw [xqv_v]
  have o15 : oJ jS σ s5 := (((o1.trans o2).trans o3).trans o4).trans o5
  have ca5 := S5.2.2.2.2.2.2.2.2
  intro x13 e13
  rw [ca5.2.1] at e13
  subst e13
  refine ⟨60, by decide, ?_⟩
  have F5 : ∀ t n, FR t n σ s5 := fun t n => o15.F (by decide) (by decide)
  refine v_trm H 59 _ s5 B 0 0 (k4 + 1) (fun _ => (0, 0, false)) g S5 (fun b hb => absurd hb (by omega)) (fun e he => absurd he (by simp [vsl])) (by decide) (by decide) (by decide) (by omega) (fun e σ' h f => ?_) (fun r s6 h S6 F6 => ?_)
  · rw [xqi_e]
    exact kf e σ' (hX.trans (eb_er h)) (FL.pre (F5 0 0) (bex.refl _) f)
  rw [xqi_i]
  have h : pTm c l 59 [] 0 B (k4 + 1) = .ok r := h
  dsimp only at hX
  rw [eb_ok h] at hX
  obtain ⟨p1, p2, p3, p4, p5, p6⟩ := pTm_ok H 59 _ _ _ (k4 + 1) _ (by decide) g (fun e he => absurd he (by simp)) q4 h
  have ma := wf_ma p1.1
  have sl := wf_so p1.1 p3
  rw [nI_clamp (n := r.1) (by omega), rc_so S6.2.2.1 p3, nI_eq (by unfold okS at sl; omega) (by omega)]
  refine ⟨vp_in_nI (by omega) (by decide), fun es => ?_, fun es => ?_⟩
  · rw [if_pos es] at hX
    unfold w_Reader_define_83
    have en : bna r.2.1 = bna B := p2.2
    have e17 : r.2.1.1 17 (bna B) = B.1 17 (bna B) := p2.1.1 17 _ (Nat.lt_succ_self _)
    refine v_addName H S6.1 S6.2.2.1 n1 (by rw [en]; exact n4) (by rw [en, e17]; exact n5) (fun s7 R7 o7 => ?_)
    rw [xqv_v]
    exact ko _ s7 hX (S6.bk o7 R7) (((F5 _ _).trans F6).trans o7.F)
  · rw [if_neg es] at hX
    refine v_fail (ek := 9) (ep := tF c l (k4 + 1)) S6.2.2.1 S6.2.2.2.2.2.2.1 rfl rfl (fun σ' f => ?_)
    rw [xqi_e]
    exact kf _ σ' hX (FL.pre ((F5 0 0).trans F6) p2.1 f)
theorem RC_A {t : Nat} {s s' : xS} (R : RC B σ) (e6 : s = xpi σ 22 (bas B) (nI t)) (e7 : s' = xpi s 5 10 (nI (bas B + 1))) : RC (addAs B t) s' ∧ oB σ s' := by
  have ch : ∀ a b, ¬ (a = 22 ∧ b = bas B) → ¬ (a = 5 ∧ b = 10) → xi s' a b = xi σ a b := fun a b q1 q2 => by rw [e7, xi_pi, if_neg q2, e6, xi_pi, if_neg q1]
  have chl : ∀ a b, xl s' a b = xl σ a b := fun a b => by rw [e7, xl_pi, e6, xl_pi]
  have v5 : ∀ j, j ≠ 10 → (addAs B t).1 5 j = B.1 5 j := fun j h => by rw [aA_5, if_neg h]
  have em : bma (addAs B t) = bma B := aA_k (by decide) 9
  refine ⟨⟨⟨?_, ?_, ?_, ?_, ?_⟩, fun k j hj => ?_, fun u ht => ?_⟩, fun a b q => ch a b (by omega) (by omega), fun a b _ _ => chl a b, by rw [e7, e6]; rfl⟩
  · rw [ch 6 9 (by omega) (by omega), R.1.1]; exact congrArg nI (aA_k (by decide) 9).symm
  · rw [ch 6 10 (by omega) (by omega), R.1.2.1]; exact congrArg nI (aA_k (by decide) 10).symm
  · rw [ch 5 4 (by omega) (by omega), R.1.2.2.1]; exact congrArg nI (v5 4 (by decide)).symm
  · rw [ch 5 8 (by omega) (by omega), R.1.2.2.2.1]; exact congrArg nI (v5 8 (by decide)).symm
  · rw [e7, xi_pi, if_pos ⟨rfl, rfl⟩]
    show _ = nI ((addAs B t).1 5 10)
    rw [aA_5, if_pos rfl]
  · by_cases q : k = 22 ∧ j = bas B
    · rw [q.1, q.2, aA_22, if_pos rfl, e7, xi_pi, if_neg (by omega), e6, xi_pi, if_pos ⟨rfl, rfl⟩]
    · have hb : j < bkB B k := by
        rcases bk_cs hj with ⟨rfl, h⟩ | ⟨rfl, h⟩ | ⟨rfl, h⟩ | ⟨rfl, h⟩ | ⟨rfl, h⟩ | ⟨rfl, h⟩ | ⟨rfl, h⟩ | ⟨rfl, h⟩ | ⟨rfl, h⟩ | ⟨rfl, h⟩ | ⟨rfl, h⟩ | ⟨rfl, h⟩ | ⟨rfl, h⟩ | ⟨rfl, h⟩
        case inr.inr.inr.inr.inr.inr.inr.inr.inr.inr.inr.inr.inr =>
          have e : bas (addAs B t) = bas B + 1 := by show (addAs B t).1 5 10 = _; rw [aA_5, if_pos rfl]
          rw [e] at h
          show j < bas B
          omega
        all_goals
          first
            | (rw [em] at h; exact h)
            | (rw [show bth (addAs B t) = bth B from v5 8 (by decide)] at h; exact h)
            | (rw [show bna (addAs B t) = bna B from v5 4 (by decide)] at h; exact h)
            | (rw [show bna (addAs B t) = bna B from v5 4 (by decide), aA_k (k := 17) (by decide)] at h; exact h)
            | (rw [em, show bfi (addAs B t) (bma B) = bfi B (bma B) from aA_k (by decide) _] at h; exact h)
      have := bk_cs hb
      rw [ch k j (by omega) (by omega), R.2.1 k j hb]
      by_cases k22 : k = 22
      · rw [k22, aA_22, if_neg (by omega)]
      · rw [aA_k ⟨by omega, k22⟩]
  · rw [em] at ht
    rw [chl, chl]
    have r := R.2.2 u ht
    have e8 : bful (addAs B t) u = bful B u := by
      unfold bful
      rw [show bso (addAs B t) u = bso B u from aA_k (by decide) _]
    rw [e8]
    exact r
theorem v_affirm (H : okN c l N) (g : gB B) (S : CS0 c l N B 0 0 j σ) (ho : od c l j = 70001) (kf : ∀ e σ', pAf c l B j = .error e → FL B e σ σ' → Q (.inr 0) σ') (ko : ∀ r σ', pAf c l B j = .ok r → CS c l N r.1 0 0 r.2 σ' → FR 0 0 σ σ' → Q (.inl none) σ') : wp_Reader_affirm Q σ := by
  obtain ⟨X, hX⟩ : ∃ X, X = pAf c l B j := ⟨_, rfl⟩
  rw [← hX] at kf ko
  unfold pAf at hX
  unfold wp_Reader_affirm
  refine v_next H S (fun s5 S5 o5 => ?_)
  rw [xqv_v]
  have ca5 := S5.2.2.2.2.2.2.2.2
  intro x3 e3
  rw [ca5.2.1] at e3
  subst e3
  refine ⟨60, by decide, ?_⟩
  have F5 : ∀ t n, FR t n σ s5 := fun t n => o5.F (by decide) (by decide)
  refine v_trm H 59 _ s5 B 0 0 j (fun _ => (0, 0, false)) g S5 (fun b hb => absurd hb (by omega)) (fun e he => absurd he (by simp [vsl])) (by decide) (by decide) (by decide) (by omega) (fun e σ' h f => ?_) (fun r s6 h S6 F6 => ?_)
  · rw [xqi_e]
    exact kf e σ' (hX.trans (eb_er h)) (FL.pre (F5 0 0) (bex.refl _) f)
  rw [xqi_i]
  have h : pTm c l 59 [] 0 B j = .ok r := h
  rw [eb_ok h] at hX
  obtain ⟨p1, p2, p3, p4, p5, p6⟩ := pTm_ok H 59 _ _ _ j _ (by decide) g (fun e he => absurd he (by simp)) S5.2.2.2.2.2.2.2.1 h
  have ma := wf_ma p1.1
  have sl := wf_so p1.1 p3
  rw [nI_clamp (n := r.1) (by omega), rc_so S6.2.2.1 p3, show (0 : Int32) = nI 0 from rfl, nI_eq (by unfold okS at sl; omega) (by omega)]
  refine ⟨vp_in_nI (by omega) (by decide), fun es => ?_, fun es => ?_⟩
  · rw [if_pos es] at hX
    unfold w_Reader_affirm_43
    have ab := p1.1.1.2.2.2.2.1
    rw [S6.2.2.1.1.2.2.2.2, show (500 : Int32) = nI 500 from rfl, nI_ltI (by omega) (by decide), nI_clamp (n := bas r.2.1) (by omega)]
    refine ⟨fun z => ⟨vp_in_nI z (by decide), fun s6' e6 s7 e7 => ?_⟩, fun z => ?_⟩
    · rw [if_pos z] at hX
      have x6 : xi s6' 5 10 = nI (bas r.2.1) := by rw [e6, xi_pi, if_neg (by omega)]; exact S6.2.2.1.1.2.2.2.2
      rw [x6, show (1 : Int32) = nI 1 from rfl, nI_add] at e7
      obtain ⟨R7, o7⟩ := RC_A S6.2.2.1 e6 e7
      exact ko _ s7 hX (S6.bk o7 R7) (((F5 _ _).trans F6).trans o7.F)
    · rw [if_neg z] at hX
      refine v_fail (ek := 11) (ep := tF c l j) S6.2.2.1 S6.2.2.2.2.2.2.1 rfl rfl (fun σ' f => ?_)
      rw [xqi_e]
      exact kf _ σ' hX (FL.pre ((F5 0 0).trans F6) p2.1 f)
  · rw [if_neg es] at hX
    refine v_fail (ek := 9) (ep := tF c l j) S6.2.2.1 S6.2.2.2.2.2.2.1 rfl rfl (fun σ' f => ?_)
    rw [xqi_e]
    exact kf _ σ' hX (FL.pre ((F5 0 0).trans F6) p2.1 f)
theorem v_cmds (H : okN c l N) (g : gB B) (S : CS0 c l N B 0 0 0 σ) (kf : ∀ e σ', pAll c l (l + 2) B 0 0 = .error e → FL B e σ σ' → Q (.inr 0) σ') (ko : ∀ r σ', pAll c l (l + 2) B 0 0 = .ok r → gB r.1 → RC r.1 σ' → FR 0 0 σ σ' → Q (.inl (some (.int (nI r.2)))) σ') (hN : N ≤ l) : wp_Reader_commands Q σ := by
  obtain ⟨X, hX⟩ : ∃ X, X = pAll c l (l + 2) B 0 0 := ⟨_, rfl⟩
  rw [← hX] at kf ko
  have n1 := H.1
  have key : ∀ m n B1 j σ1, N < j + m → gB B1 → bex B B1 → CS0 c l N B1 0 0 j σ1 → 3 * n ≤ j → od c l j = 70000 → FR 0 0 σ σ1 → X = pAll c l m B1 j n → w_Reader_commands_2 Q m (nI n) σ1 := by
    intro m
    induction m with
    | zero =>
      intro n B1 j σ1 hm g1 x1 S1
      have := S1.2.2.2.2.2.2.2
      omega
    | succ m ih =>
      intro n B1 j σ1 hm g1 x1 S1 hn o1 F1 hx
      have hj := S1.2.2.2.2.2.2.2
      unfold pAll at hx
      unfold w_Reader_commands_2
      rw [show (65536 : Int32) = nI 65536 from rfl, nI_leI (by decide) (by omega)]
      refine ⟨fun z => absurd z (by omega), fun _ => ?_⟩
      refine v_isOver H S1 ?_
      rw [xqi_i]
      refine ⟨fun z => ?_, fun z => ?_⟩
      · have z : tK c l j = 19 := by
          apply Classical.byContradiction
          intro q
          exact z ((bI_0 _).mpr (decide_eq_false q))
        rw [if_pos z] at hx
        exact ko (B1, n) σ1 hx g1 S1.2.2.1 F1
      have z : ¬ tK c l j = 19 := of_decide_eq_false ((bI_0 _).mp z)
      rw [if_neg z] at hx
      obtain ⟨Y, hY⟩ : ∃ Y, Y = pCm c l B1 j := ⟨_, rfl⟩
      rw [← hY] at hx
      unfold pCm at hY
      have fe : ∀ e s s', Y = .error e → FR 0 0 σ s → ∀ B2, bex B B2 → FL B2 e s s' → Q (.inr 0) s' := fun e s s' hy Fs B2 x2 f => kf e s' (hx.trans (eb_er hy)) (FL.pre Fs x2 f)
      refine v_expect (k0 := 0) H (by decide) S1 (fun e σ' h f => ?_) (fun s2 h2 S2 o2 => ?_)
      · rw [xqv_e]
        exact fe e σ1 σ' (hY.trans (eb_er h)) F1 B1 x1 f
      rw [xqv_v]
      rw [eb_ok h2] at hY
      have k2 := pX_i h2
      have b2 := H.lt (i := j) hj (by omega)
      have t2 := (tok_0 k2).1
      have F2 : FR 0 0 σ s2 := F1.trans (o2.F (by decide) (by decide))
      refine v_next H (S2.n b2) (fun s3 S3 o3 => ?_)
      rw [xqv_v]
      have F3 : FR 0 0 σ s3 := F2.trans (o3.F (by decide) (by decide))
      have ca := S3.2.2.2.2.2.2.2.2
      rw [ca.2.2.2, show (0 : Int32) = nI 0 from rfl, show (1 : Int32) = nI 1 from rfl, show (2 : Int32) = nI 2 from rfl, supI_eq (fun m h => tR_lt h) (by decide), supI_eq (fun m h => tR_lt h) (by decide), supI_eq (fun m h => tR_lt h) (by decide)]
      -- the end of a command
      have fin : ∀ (r : Bk × Nat) s4, Y = (eb (pX c l (r.2 + 1) 1) fun _ => .ok (r.1, r.2 + 1)) → gB r.1 → bex B1 r.1 → j + 2 ≤ r.2 → r.2 < N → od c l (r.2 + 1) = 70001 → CS c l N r.1 0 0 r.2 s4 → FR 0 0 σ s4 → w_Reader_commands_93 Q (w_Reader_commands_2 Q m) (nI n) s4 := fun r s4 hy g4 x4 j4 b4 o4 S4 F4 => by
        unfold w_Reader_commands_93
        refine v_expect (k0 := 1) H (by decide) (S4.n b4) (fun e σ' h f => ?_) (fun s5 h5 S5 o5 => ?_)
        · rw [xqv_e]
          exact fe e s4 σ' (hy.trans (eb_er h)) F4 r.1 (x1.trans x4) f
        rw [xqv_v]
        rw [eb_ok h5] at hy
        have k5 := pX_i h5
        have b5 := H.lt (i := r.2 + 1) b4 (by omega)
        have t5 := H.t1 (i := r.2 + 1) b4 k5
        intro x11 e11
        rw [show (1 : Int32) = nI 1 from rfl, nI_add] at e11
        subst e11
        rw [eb_ok hy] at hx
        exact ih (n + 1) r.1 (r.2 + 1 + 1) s5 (by omega) g4 (x1.trans x4) (S5.n b5) (by omega) (by omega) (F4.trans (o5.F (by decide) (by decide))) hx
      have t3 : ∀ r, tR c l (j + 1) = some r → j + 1 < N ∧ od c l (j + 2) = 70001 := fun r h => by
        have k5 := (tok_R h).1
        have t5 := (tok_2 (c := c) (l := l) (i := j + 1) (by omega) (by omega)).2.1
        rw [show j + 1 + 1 = j + 2 by omega] at t5
        exact ⟨H.lt (i := j + 1) b2 (by omega), by omega⟩
      refine ⟨fun k => ?_, fun k => ?_, fun k => ?_, fun k => ?_⟩
      · obtain ⟨b3, o3'⟩ := t3 _ k
        rw [if_pos k] at hY
        refine v_declare H g1 (S3.n b3) (fun e σ' h f => ?_) (fun r s4 h S4 F4 => ?_)
        · rw [xqv_e]
          exact fe e s3 σ' (hY.trans (eb_er h)) F3 B1 x1 f
        · rw [xqv_v]
          obtain ⟨q1, q2, q3, q4, q5⟩ := pDc_ok H g1 (i := j + 2) b3 h
          exact fin r s4 (hY.trans (eb_ok h)) q1 q2 q3 q4 (by omega) S4 (F3.trans F4)
      · obtain ⟨b3, o3'⟩ := t3 _ k
        rw [if_neg (by rw [k]; decide), if_pos k] at hY
        refine v_define H g1 (S3.n b3) o3' (fun e σ' h f => ?_) (fun r s4 h S4 F4 => ?_)
        · rw [xqv_e]
          exact fe e s3 σ' (hY.trans (eb_er h)) F3 B1 x1 f
        · rw [xqv_v]
          obtain ⟨q1, q2, q3, q4, q5⟩ := pDf_ok H g1 (i := j + 2) b3 h
          exact fin r s4 (hY.trans (eb_ok h)) q1 q2 q3 q4 (by omega) S4 (F3.trans F4)
      · obtain ⟨b3, o3'⟩ := t3 _ k
        rw [if_neg (by rw [k]; decide), if_neg (by rw [k]; decide), if_pos k] at hY
        refine v_affirm H g1 (S3.n b3) o3' (fun e σ' h f => ?_) (fun r s4 h S4 F4 => ?_)
        · rw [xqv_e]
          exact fe e s3 σ' (hY.trans (eb_er h)) F3 B1 x1 f
        · rw [xqv_v]
          obtain ⟨q1, q2, q3, q4, q5⟩ := pAf_ok H g1 (i := j + 2) b3 h
          exact fin r s4 (hY.trans (eb_ok h)) q1 q2 q3 q4 (by omega) S4 (F3.trans F4)
      · rw [if_neg k.1, if_neg k.2.1, if_neg k.2.2] at hY
        refine v_failHere H S3 (fun σ' f => ?_)
        rw [xqi_e]
        exact fe _ s3 σ' (hY.trans rfl) F3 B1 x1 f
  unfold wp_Reader_commands
  exact ⟨_, key (l + 2) 0 B 0 σ (by omega) g (bex.refl _) S (by omega) rfl (FR.refl _ _ _) hX⟩
def oV (σ σ' : xS) : Prop := (∀ a b, ¬ (a = 1 ∨ (5 ≤ a ∧ a ≤ 29)) → xi σ' a b = xi σ a b) ∧ (∀ a b, a ≠ 3 → a ≠ 12 → a ≠ 13 → xl σ' a b = xl σ a b)
theorem v_read (T : TB σ c l) (R : RC B σ) (g : gB B) (hx : 1 ≤ xb σ)
    (kf : ∀ e σ', pAll c l (l + 2) B 0 0 = .error e → oV σ σ' → RC B σ' → xi σ' 1 1 = nI 0 → xi σ' 1 2 = nI e.1 → xi σ' 1 3 = nI e.2 → xb σ' = xb σ - 1 → Q (.inl (some (.int (-1)))) σ')
    (ko : ∀ r σ', pAll c l (l + 2) B 0 0 = .ok r → gB r.1 → oV σ σ' → RC r.1 σ' → xi σ' 1 1 = nI 0 → xi σ' 1 2 = nI 0 → xi σ' 1 3 = -1 → xb σ' = xb σ → Q (.inl (some (.int (nI r.2)))) σ') : wp_VectorSolver_read Q σ := by
  obtain ⟨N, hN, hN1, hN2⟩ := tok_end c l
  have l1 := T.2.1
  have H : okN c l N := ⟨by omega, l1, fun k hk => (T.2.2.1 k hk).1, hN1, hN2⟩
  unfold wp_VectorSolver_read wp_Reader_wholeText
  refine v_split T hN hN1 hN2 (fun s1 o1 P1 h16 h12 h13 => ?_)
  rw [xqv_v]
  have R1 : RC B s1 := R.keep (fun k j q1 q2 => o1.1 k j (by omega)) (fun k j q1 q2 => o1.2.1 k j (by omega))
  unfold wp_Book_keep
  refine ⟨show vp_in (nI 0) 5 from vp_in_nI (by decide) (by decide), fun u1 e1 => ⟨show vp_in (nI 1) 5 from vp_in_nI (by decide) (by decide), fun u2 e2 => ⟨show vp_in (nI 2) 5 from vp_in_nI (by decide) (by decide), fun u3 e3 => ⟨show vp_in (nI 3) 5 from vp_in_nI (by decide) (by decide), fun u4 e4 => ⟨show vp_in (nI 4) 5 from vp_in_nI (by decide) (by decide), fun u5 e5 => ?_⟩⟩⟩⟩⟩
  rw [xqv_v]
  intro s5 e5' s6 e6 x7 e7
  have c0 : (0 : Int32).toNatClampNeg = 0 := by decide
  have c1 : (1 : Int32).toNatClampNeg = 1 := by decide
  have c2 : (2 : Int32).toNatClampNeg = 2 := by decide
  have c3 : (3 : Int32).toNatClampNeg = 3 := by decide
  have c4 : (4 : Int32).toNatClampNeg = 4 := by decide
  rw [c0] at e1
  rw [c1] at e2
  rw [c2] at e3
  rw [c3] at e4
  rw [c4] at e5
  have n23 : ∀ a b, ¬ a = 23 → xi u5 a b = xi s1 a b := fun a b q => by rw [e5, xi_pi, if_neg (by omega), e4, xi_pi, if_neg (by omega), e3, xi_pi, if_neg (by omega), e2, xi_pi, if_neg (by omega), e1, xi_pi, if_neg (by omega)]
  have l23 : ∀ a b, xl u5 a b = xl s1 a b := fun a b => by rw [e5, xl_pi, e4, xl_pi, e3, xl_pi, e2, xl_pi, e1, xl_pi]
  have k0 : xi u5 23 0 = nI (bma B) := by rw [e5, xi_pi, if_neg (by omega), e4, xi_pi, if_neg (by omega), e3, xi_pi, if_neg (by omega), e2, xi_pi, if_neg (by omega), e1, xi_pi, if_pos ⟨rfl, rfl⟩]; exact R1.1.1
  have k1 : xi u5 23 1 = nI (bwe B) := by rw [e5, xi_pi, if_neg (by omega), e4, xi_pi, if_neg (by omega), e3, xi_pi, if_neg (by omega), e2, xi_pi, if_pos ⟨rfl, rfl⟩, e1, xi_pi, if_neg (by omega)]; exact R1.1.2.1
  have k2 : xi u5 23 2 = nI (bna B) := by rw [e5, xi_pi, if_neg (by omega), e4, xi_pi, if_neg (by omega), e3, xi_pi, if_pos ⟨rfl, rfl⟩, e2, xi_pi, if_neg (by omega), e1, xi_pi, if_neg (by omega)]; exact R1.1.2.2.1
  have k3 : xi u5 23 3 = nI (bth B) := by rw [e5, xi_pi, if_neg (by omega), e4, xi_pi, if_pos ⟨rfl, rfl⟩, e3, xi_pi, if_neg (by omega), e2, xi_pi, if_neg (by omega), e1, xi_pi, if_neg (by omega)]; exact R1.1.2.2.2.1
  have k4 : xi u5 23 4 = nI (bas B) := by rw [e5, xi_pi, if_pos ⟨rfl, rfl⟩, e4, xi_pi, if_neg (by omega), e3, xi_pi, if_neg (by omega), e2, xi_pi, if_neg (by omega), e1, xi_pi, if_neg (by omega)]; exact R1.1.2.2.2.2
  have x5 : xb u5 = xb s1 := by rw [e5, e4, e3, e2, e1]; rfl
  clear e1 e2 e3 e4 e5 c0 c1 c2 c3 c4
  have ch6 : ∀ a b, ¬ (a = 24 ∧ (b = 4 ∨ b = 9)) → xi s6 a b = xi u5 a b := fun a b q => by rw [e6, xi_pi, if_neg (by omega), e5', xi_pi, if_neg (by omega)]
  have l6 : ∀ a b, xl s6 a b = xl u5 a b := fun a b => by rw [e6, xl_pi, e5', xl_pi]
  have x6 : xb s6 = xb σ := by rw [← o1.2.2, ← x5, e6, e5']; rfl
  have p24 : xi s6 24 4 = nI 0 := by rw [e6, xi_pi, if_neg (by omega), e5', xi_pi, if_pos ⟨rfl, rfl⟩]; rfl
  have p29 : xi s6 24 9 = nI 0 := by rw [e6, xi_pi, if_pos ⟨rfl, rfl⟩]; rfl
  clear e6 e5'
  have c6 : ∀ a b, ¬ (a = 24 ∨ a = 23) → xi s6 a b = xi s1 a b := fun a b q => (ch6 a b (by omega)).trans (n23 a b (by omega))
  have cl6 : ∀ a b, xl s6 a b = xl s1 a b := fun a b => (l6 a b).trans (l23 a b)
  have T1 := T.keepP o1
  have S6 : CS0 c l N B 0 0 0 s6 := ⟨⟨(c6 1 1 (by omega)).trans T1.1, T1.2.1, fun i hi => ⟨(T1.2.2.1 i hi).1, (c6 2 i (by omega)).trans (T1.2.2.1 i hi).2⟩, fun n hn => (c6 4 n (by omega)).trans (T1.2.2.2 n hn)⟩, ⟨fun j hj => (cl6 3 j).trans (P1.1 j hj), (c6 1 5 (by omega)).trans P1.2⟩, R1.keep (fun k j q1 q2 => c6 k j (by omega)) (fun k j _ _ => cl6 k j), (c6 1 6 (by omega)).trans h16, p24, p29, by rw [x6]; exact hx, Nat.zero_le _⟩
  have V6 : oV σ s6 := ⟨fun a b q => (c6 a b (by omega)).trans (o1.1 a b (by omega)), fun a b q _ _ => (cl6 a b).trans (o1.2.1 a b q)⟩
  have VR : ∀ s', oR s6 s' → oV σ s' := fun s' o => ⟨fun a b q => (o.1 a b (fun z => by unfold rdc at z; omega)).trans (V6.1 a b q), fun a b q1 q2 q3 => (o.2 a b q2 q3).trans (V6.2 a b q1 q2 q3)⟩
  refine v_cmds H g S6 (fun e s7 h f => ?_) (fun r s7 h g7 R7 F7 => ?_) hN
  · rw [xqi_e]
    obtain ⟨f1, ⟨B', f2, f3⟩, f4, f5, f6⟩ := f
    refine ⟨rfl, ?_⟩
    have kk : ∀ b, xi s7 23 b = xi u5 23 b := fun b => (f1.1 23 b (fun z => by unfold rdc at z; omega)).trans (ch6 23 b (by omega))
    unfold wp_Book_goBack
    refine ⟨show vp_in (nI 0) 5 from vp_in_nI (by decide) (by decide), fun u1 e1 => ⟨show vp_in (nI 1) 5 from vp_in_nI (by decide) (by decide), fun u2 e2 => ⟨show vp_in (nI 2) 5 from vp_in_nI (by decide) (by decide), fun u3 e3 => ⟨show vp_in (nI 3) 5 from vp_in_nI (by decide) (by decide), fun u4 e4 => ⟨show vp_in (nI 4) 5 from vp_in_nI (by decide) (by decide), fun u5' e5 => ?_⟩⟩⟩⟩⟩
    rw [xqv_v]
    have c0 : (0 : Int32).toNatClampNeg = 0 := by decide
    have c1 : (1 : Int32).toNatClampNeg = 1 := by decide
    have c2 : (2 : Int32).toNatClampNeg = 2 := by decide
    have c3 : (3 : Int32).toNatClampNeg = 3 := by decide
    have c4 : (4 : Int32).toNatClampNeg = 4 := by decide
    rw [c0, kk, k0] at e1
    have y2 : xi u1 23 1 = nI (bwe B) := by rw [e1, xi_pi, if_neg (by omega), kk, k1]
    rw [c1, y2] at e2
    have y3 : xi u2 23 2 = nI (bna B) := by rw [e2, xi_pi, if_neg (by omega), e1, xi_pi, if_neg (by omega), kk, k2]
    rw [c2, y3] at e3
    have y4 : xi u3 23 3 = nI (bth B) := by rw [e3, xi_pi, if_neg (by omega), e2, xi_pi, if_neg (by omega), e1, xi_pi, if_neg (by omega), kk, k3]
    rw [c3, y4] at e4
    have y5 : xi u4 23 4 = nI (bas B) := by rw [e4, xi_pi, if_neg (by omega), e3, xi_pi, if_neg (by omega), e2, xi_pi, if_neg (by omega), e1, xi_pi, if_neg (by omega), kk, k4]
    rw [c4, y5] at e5
    unfold w_Reader_wholeText_42
    intro s12 e12
    rw [xqi_i, e7]
    have z12 : ∀ a b, ¬ (a = 1 ∧ b = 1) → ¬ (a = 5 ∨ a = 6) → xi s12 a b = xi s7 a b := fun a b q1 q2 => by rw [e12, xi_pi, if_neg q1, e5, xi_pi, if_neg (by omega), e4, xi_pi, if_neg (by omega), e3, xi_pi, if_neg (by omega), e2, xi_pi, if_neg (by omega), e1, xi_pi, if_neg (by omega)]
    have zl : ∀ a b, xl s12 a b = xl s7 a b := fun a b => by rw [e12, xl_pi, e5, xl_pi, e4, xl_pi, e3, xl_pi, e2, xl_pi, e1, xl_pi]
    refine kf e s12 h ⟨fun a b q => (z12 a b (by omega) (by omega)).trans ((VR s7 f1).1 a b q), fun a b q1 q2 q3 => (zl a b).trans ((VR s7 f1).2 a b q1 q2 q3)⟩ (RC.back f3 f2 ⟨?_, ?_, ?_, ?_, ?_⟩ (fun k j q1 q2 => z12 k j (by omega) (by omega)) (fun k j _ _ => zl k j)) ?_ ((z12 1 2 (by omega) (by omega)).trans f5) ((z12 1 3 (by omega) (by omega)).trans f6) ?_
    · rw [e12, xi_pi, if_neg (by omega), e5, xi_pi, if_neg (by omega), e4, xi_pi, if_neg (by omega), e3, xi_pi, if_neg (by omega), e2, xi_pi, if_neg (by omega), e1, xi_pi, if_pos ⟨rfl, rfl⟩]
    · rw [e12, xi_pi, if_neg (by omega), e5, xi_pi, if_neg (by omega), e4, xi_pi, if_neg (by omega), e3, xi_pi, if_neg (by omega), e2, xi_pi, if_pos ⟨rfl, rfl⟩]
    · rw [e12, xi_pi, if_neg (by omega), e5, xi_pi, if_neg (by omega), e4, xi_pi, if_neg (by omega), e3, xi_pi, if_pos ⟨rfl, rfl⟩]
    · rw [e12, xi_pi, if_neg (by omega), e5, xi_pi, if_neg (by omega), e4, xi_pi, if_pos ⟨rfl, rfl⟩]
    · rw [e12, xi_pi, if_neg (by omega), e5, xi_pi, if_pos ⟨rfl, rfl⟩]
    · rw [e12, xi_pi, if_pos ⟨rfl, rfl⟩]; rfl
    · rw [← x6, ← f4, e12, e5, e4, e3, e2, e1]; rfl
  · rw [xqi_i]
    unfold w_Reader_wholeText_42
    intro s12 e12
    rw [xqi_i]
    have z12 : ∀ a b, ¬ (a = 1 ∧ b = 1) → xi s12 a b = xi s7 a b := fun a b q1 => by rw [e12, xi_pi, if_neg q1]
    have V7 := VR s7 F7.1.R
    refine ko r s12 h g7 ⟨fun a b q => (z12 a b (by omega)).trans (V7.1 a b q), fun a b q1 q2 q3 => by rw [e12, xl_pi]; exact V7.2 a b q1 q2 q3⟩ (R7.keep (fun k j q1 q2 => z12 k j (by omega)) (fun k j _ _ => by rw [e12, xl_pi])) ?_ ?_ ?_ ?_
    · rw [e12, xi_pi, if_pos ⟨rfl, rfl⟩]; rfl
    · rw [z12 1 2 (by omega), F7.1.1 1 2 (fun z => by unfold rdF at z; omega), c6 1 2 (by omega)]; exact h12
    · rw [z12 1 3 (by omega), F7.1.1 1 3 (fun z => by unfold rdF at z; omega), c6 1 3 (by omega)]; exact h13
    · rw [← x6, ← F7.2.2.2, e12]; rfl
end CCMD
