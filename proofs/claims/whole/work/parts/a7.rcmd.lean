/-! THE REFERENCE READS: commands and the whole text -/
section RCM
variable {c : Nat → Nat} {l N : Nat} {B : Bk} {i j w t : Nat} {σ σ' : xS} {Q : xO → xS → Prop} {e : Nat × Nat}
theorem pSo_bad (h : 16 ≤ tK c l i) : pSo c l i = .error (badT c l i) := by
  unfold pSo
  rw [if_neg (by rw [tR_bad h]; simp)]
  exact eb_er (if_neg (by omega))
theorem r_cmd (H : okN c l N) (g : gB B) (S : RS c l N B j σ) (h19 : tK c l j ≠ 19) (ho : od c l j = 70000) (kf : ∀ e σ', pCm c l B j = .error e → RFl B e σ σ' → Q (.inl none) σ') (ko : ∀ r σ', pCm c l B j = .ok r → RS c l N r.1 r.2 σ' → oS σ σ' → Q (.inl none) σ') : wp_VectorSolverModel_command Q σ := by
  have n1 := H.1
  have hj := S.2.2.2.2.2.2.1
  have vj : vp_in (nI j) 65537 := vp_in_nI (by omega) (by decide)
  have nm := g.2.2.1
  obtain ⟨Y, hY⟩ : ∃ Y, Y = pCm c l B j := ⟨_, rfl⟩
  rw [← hY] at kf ko
  unfold pCm at hY
  have t1 := (tK_32 (j := j) H).1
  have tk := S.2.1.t (j := j) hj
  have f344 : ∀ e s, Y = .error e → RFl B e σ s → w_VectorSolverModel_command_344 Q s := fun e s hy f => by
    unfold w_VectorSolverModel_command_344
    refine n_need f.X ?_
    rw [xqi_i]
    exact kf e s hy f
  have fin : ∀ (r : Bk × Nat) s, Y = (eb (pX c l (r.2 + 1) 1) fun _ => .ok (r.1, r.2 + 1)) → bex B r.1 → r.2 < N → RS c l N r.1 r.2 s → oS σ s → w_VectorSolverModel_command_344 Q s := fun r s hy x4 b4 S4 o4 => by
    unfold w_VectorSolverModel_command_344
    refine r_need (k0 := 1) H (by decide) (S4.n b4) (fun e s' he f => ?_) (fun s5 h5 S5 o5 => ?_)
    · rw [xqi_i]
      exact kf e s' (hy.trans (eb_er he)) (RFl.pre o4 x4 f)
    · rw [xqi_i]
      exact ko (r.1, r.2 + 1) s5 (hy.trans (eb_ok h5)) S5 (o4.trans (o5.S (fun b hb => jR_rcl b (by revert b; decide))))
  unfold wp_VectorSolverModel_command
  rw [S.2.2.2.2.2.1, nI_clamp (n := j) (by omega), tk.1, show (1 : Int32) = nI (0 + 1) from rfl, rk_k _ t1 0 (by decide)]
  refine ⟨vj, fun z => ?_, fun z => ?_⟩
  · unfold w_VectorSolverModel_command_19
    refine r_mustF H S rfl (fun s' f => ?_)
    rw [xqi_i]
    exact ⟨fun y => absurd rfl y, fun _ => kf _ s' (hY.trans (eb_er (if_neg z))) f⟩
  have hp0 : pX c l j 0 = .ok () := if_pos z
  rw [eb_ok hp0] at hY
  have b0 := H.lt (i := j) hj (by omega)
  have od0 := (tok_0 z).1
  unfold w_VectorSolverModel_command_19
  refine r_mustT H S (by decide) ?_
  rw [xqi_i]
  refine ⟨fun _ => ?_, fun y => absurd y (by decide)⟩
  -- after a fault in front of a term
  have f105 : ∀ a t0 e s, Y = .error e → RFl B e σ s → w_VectorSolverModel_command_105 Q a t0 s := fun a t0 e s hy f => by
    unfold w_VectorSolverModel_command_105 w_VectorSolverModel_command_165
    exact ⟨fun _ => f344 e s hy f, fun y => absurd y f.X.1⟩
  have f64 : ∀ a e s, Y = .error e → RFl B e σ s → w_VectorSolverModel_command_64 Q a s := fun a e s hy f => by
    unfold w_VectorSolverModel_command_64
    exact ⟨fun _ => f105 a 0 e s hy f, fun y => absurd y f.X.1⟩
  have f224 : ∀ a e s, Y = .error e → RFl B e σ s → w_VectorSolverModel_command_224 Q a s := fun a e s hy f => by
    unfold w_VectorSolverModel_command_224
    intro x21 _ x22 _
    refine n_told f.X ?_
    rw [xqi_i]
    unfold w_VectorSolverModel_command_260
    exact ⟨fun _ => f344 e s hy f, fun y => absurd y f.X.1⟩
  have f207 : ∀ a t0 e s, Y = .error e → RFl B e σ s → w_VectorSolverModel_command_208 Q a t0 s := fun a t0 e s hy f => by
    unfold w_VectorSolverModel_command_208
    refine n_next f.X ?_
    rw [xqv_v]
    exact ⟨fun _ => f224 a e s hy f, fun y => absurd y f.X.1⟩
  have f283 : ∀ t0 e s, Y = .error e → RFl B e σ s → w_VectorSolverModel_command_283 Q t0 s := fun t0 e s hy f => by
    unfold w_VectorSolverModel_command_283
    refine n_must f.X ?_
    rw [xqi_i]
    exact ⟨fun _ => f344 e s hy f, fun y => absurd rfl y⟩
  have fdc : ∀ e s, Y = .error e → RFl B e σ s → wp_VectorSolverModel_freshName (xqi (fun r32 u31 => wp_VectorSolverModel_next (xqv (fun u33 => ((¬ (xi u33 50 4) = 0 → w_VectorSolverModel_command_64 Q r32 u33) ∧ ((xi u33 50 4) = 0 → wp_VectorSolverModel_readSort (xqv (fun u47 => w_VectorSolverModel_command_64 Q r32 u47) (fun n u => Q (.inr n) u)) u33 ))) (fun n u => Q (.inr n) u)) u31 ) (fun n u => Q (.inr n) u)) s := fun e s hy f => by
    refine n_fresh f.X ?_
    rw [xqi_i]
    refine n_next f.X ?_
    rw [xqv_v]
    exact ⟨fun _ => f64 _ e s hy f, fun y => absurd y f.X.1⟩
  have fdf : ∀ e s, Y = .error e → RFl B e σ s → wp_VectorSolverModel_freshName (xqi (fun r16 u15 => wp_VectorSolverModel_need (xqi (fun r18 u17 => ((r18 = 0 → w_VectorSolverModel_command_207 Q r16 u17) ∧ (¬ r18 = 0 → wp_VectorSolverModel_need (xqi (fun r30 u29 => ((r30 = 0 → w_VectorSolverModel_command_207 Q r16 u29) ∧ (¬ r30 = 0 → w_VectorSolverModel_command_208 Q r16 1 u29))) (fun n u => Q (.inr n) u)) u17 2))) (fun n u => Q (.inr n) u)) u15 1) (fun n u => Q (.inr n) u)) s := fun e s hy f => by
    refine n_fresh f.X ?_
    rw [xqi_i]
    refine n_need f.X ?_
    rw [xqi_i]
    refine ⟨fun _ => ?_, fun y => absurd rfl y⟩
    unfold w_VectorSolverModel_command_207
    exact f207 _ _ e s hy f
  refine r_next H (S.n b0) (fun s' y f => ?_) (fun s3 S3 o3 => ?_)
  · rw [xqv_v]
    have nr := tR_bad y
    have hy : Y = .error (badT c l (j + 1)) := by
      rw [hY, if_neg (by rw [nr]; simp), if_neg (by rw [nr]; simp), if_neg (by rw [nr]; simp)]
      rfl
    exact ⟨f.X.v, fun _ => ⟨f.X.v, fun _ => ⟨f.X.v, fun _ => f283 _ _ s' hy f, fun _ => f283 _ _ s' hy f⟩, fun _ => fdf _ s' hy f⟩, fun _ => fdc _ s' hy f⟩
  have hj1 := S3.2.2.2.2.2.2.1
  have v1 : vp_in (nI (j + 1)) 65537 := vp_in_nI (by omega) (by decide)
  have t3 := S3.2.1.t (j := j + 1) hj1
  have O3 : oS σ s3 := o3.S (fun b hb => jR_rcl b (by revert b; decide))
  have fe : ∀ {B1 : Bk} e s s', oS σ s → bex B B1 → RFl B1 e s s' → RFl B e σ s' := fun e s s' o x f => RFl.pre o x f
  rw [xqv_v, S3.2.2.2.2.2.1, nI_clamp (n := j + 1) (by omega), t3.2.2.2, show (39 : Int32) = nI (ridx 0) from rfl, show (40 : Int32) = nI (ridx 1) from rfl, show (41 : Int32) = nI (ridx 2) from rfl, rix_eq (fun m h => tR_lt h) (by decide), rix_eq (fun m h => tR_lt h) (by decide), rix_eq (fun m h => tR_lt h) (by decide)]
  have b1 : ∀ r, tR c l (j + 1) = some r → j + 1 < N ∧ od c l (j + 2) = 70001 := fun r h => by
    have k5 := (tok_R h).1
    have t5 := (tok_2 (c := c) (l := l) (i := j + 1) (by omega) (by omega)).2.1
    rw [show j + 1 + 1 = j + 2 by omega] at t5
    exact ⟨H.lt (i := j + 1) hj1 (by omega), by omega⟩
  refine ⟨v1, fun k0 => ⟨v1, fun k1 => ⟨v1, fun k2 => ?_, fun k2 => ?_⟩, fun k1 => ?_⟩, fun k0 => ?_⟩
  · -- no command
    rw [if_neg k0, if_neg k1, if_neg k2] at hY
    unfold w_VectorSolverModel_command_283
    refine r_mustF H S3 rfl (fun s' f => ?_)
    rw [xqi_i]
    exact ⟨fun _ => f344 (badT c l (j + 1)) s' (hY.trans rfl) (fe _ s3 s' O3 (bex.refl _) f), fun y => absurd rfl y⟩
  · -- assert
    rw [if_neg k0, if_neg k1, if_pos k2] at hY
    obtain ⟨b1, o2⟩ := b1 _ k2
    unfold pAf at hY
    unfold w_VectorSolverModel_command_283
    refine r_mustT H S3 (by decide) ?_
    rw [xqi_i]
    refine ⟨fun y => absurd y (by decide), fun _ => ?_⟩
    have fz : ∀ r t1 e s, Y = .error e → RFl B e σ s → w_VectorSolverModel_command_312 Q r t1 s := fun r t1 e s hy f => by
      unfold w_VectorSolverModel_command_312
      refine n_want f.X.1 ?_
      rw [xqi_i]
      exact ⟨fun _ => f344 e s hy f, fun y => absurd rfl y⟩
    refine r_told (so := 0) H g (S3.n b1) o2 (by decide) (fun e s' t he f => ?_) (fun r s4 hr hs S4 h55 o4 => ?_)
    · rw [xqi_i]
      have hy : Y = .error e := by
        rw [hY]
        cases q : pTm c l 59 [] 0 B (j + 2) with
        | error e' =>
          have q' : pTm c l 59 [] 0 B (j + 1 + 1) = .error e' := q
          rw [eb_er q'] at he
          rw [eb_er (eb_er rfl)]
          cases he
          rfl
        | ok r =>
          have q' : pTm c l 59 [] 0 B (j + 1 + 1) = .ok r := q
          rw [eb_ok q'] at he
          by_cases z : bso r.2.1 r.1 = 0
          · rw [if_pos z] at he; cases he
          · rw [if_neg z] at he
            rw [eb_ok rfl, if_neg z]
            cases he
            rfl
      have f' := fe e s3 s' O3 (bex.refl _) f
      exact ⟨fun _ => fz _ _ e s' hy f', fun _ => fz _ _ e s' hy f'⟩
    have hr : pTm c l 59 [] 0 B (j + 2) = .ok r := hr
    obtain ⟨q1, q2, q3, q4, q5, q6⟩ := pTm_ok H 59 [] _ _ (j + 2) _ (by decide) g (fun e he => absurd he (by simp)) b1 hr
    rw [eb_ok hr, if_pos hs] at hY
    have ab := q1.1.1.2.2.2.2.1
    have hi4 := S4.2.2.2.2.2.2.1
    rw [xqi_i, S4.2.2.1.1.2.2.2.1, show (500 : Int32) = nI 500 from rfl, nI_leI (by decide) (by omega)]
    refine ⟨fun y => ?_, fun y => ?_⟩
    · rw [if_neg (by omega)] at hY
      unfold w_VectorSolverModel_command_312
      rw [h55]
      refine r_wantF (B := r.2.1) (ek := 11) (ep := tF c l (j + 2)) S4.2.2.1 S4.2.2.2.1 S4.2.2.2.2.2.1 (by omega) rfl rfl rfl (by decide) (fun s' f => ?_)
      rw [xqi_i]
      exact ⟨fun _ => f344 (11, tF c l (j + 2)) s' (hY.trans rfl) (fe _ s4 s' (O3.trans o4) q2.1 f), fun x => absurd rfl x⟩
    · rw [if_pos (by omega)] at hY
      unfold w_VectorSolverModel_command_312
      refine r_wantT S4.2.2.2.1 (by decide) ?_
      rw [xqi_i, S4.2.2.1.1.2.2.2.1, nI_clamp (n := bas r.2.1) (by omega)]
      refine ⟨fun x => absurd x (by decide), fun _ => ⟨vp_in_nI (by omega) (by decide), fun s13 e13 s14 e14 => ?_⟩⟩
      have y27 : xi s13 50 27 = nI (bas r.2.1) := by rw [e13, xi_pi, if_neg (by omega)]; exact S4.2.2.1.1.2.2.2.1
      rw [y27, show (1 : Int32) = nI 1 from rfl, nI_add] at e14
      have c14 : ∀ a b, ¬ (a = 50 ∧ b = 27) → ¬ (a = 69 ∧ b = bas r.2.1) → xi s14 a b = xi s4 a b := fun a b q1 q2 => by rw [e14, xi_pi, if_neg q1, e13, xi_pi, if_neg q2]
      have l14 : ∀ a b, xl s14 a b = xl s4 a b := fun a b => by rw [e14, xl_pi, e13, xl_pi]
      have R14 : RR (addAs r.2.1 r.1) s14 := RR_A S4.2.2.1 (by rw [e14, xi_pi, if_pos ⟨rfl, rfl⟩]) (fun j hj => c14 50 j (fun z => by rw [z.2] at hj; revert hj; decide) (by omega)) (by rw [e14, xi_pi, if_neg (by omega), e13, xi_pi, if_pos ⟨rfl, rfl⟩]) (fun i hi => c14 69 i (by omega) (by omega)) (fun k j hk => c14 k j (by omega) (by omega)) (fun j => l14 64 j)
      have o14 : oS s4 s14 := ⟨fun a b q => c14 a b (fun z => q (by unfold rcl; omega)) (fun z => q (by unfold rcl; omega)), fun a b _ => l14 a b, by rw [e14, e13]; rfl⟩
      exact fin (addAs r.2.1 r.1, r.2.2) s14 hY (q2.1.trans bex_A) q5 (S4.k o14 (c14 50 4 (by omega) (by omega)) (c14 50 5 (by omega) (by omega)) (c14 50 10 (by omega) (by omega)) R14) ((O3.trans o4).trans o14)
  · -- define
    rw [if_neg k0, if_pos k1] at hY
    obtain ⟨b1, o2⟩ := b1 _ k1
    unfold pDf at hY
    refine r_fresh H g (S3.n b1) (fun e s' x he f => ?_) (fun s4 h4 S4 o4 => ?_)
    · rw [xqi_i]
      have f' := fe e s3 s' O3 (bex.refl _) f
      have hy : Y = .error e := hY.trans (by rw [eb_er (show pNew c l B (j + 2) = .error e from he)]; rfl)
      refine n_need f'.X ?_
      rw [xqi_i]
      refine ⟨fun _ => ?_, fun y => absurd rfl y⟩
      unfold w_VectorSolverModel_command_207
      exact f207 _ _ e s' hy f'
    have h4 : pNew c l B (j + 2) = .ok () := h4
    have S4 : RS c l N B (j + 2) s4 := S4
    rw [eb_ok h4] at hY
    obtain ⟨m1, m2, m3, m4, m5⟩ := pNew_i h4
    have b2 := H.lt (i := j + 2) S4.2.2.2.2.2.2.1 (by omega)
    have td := (tok_2 (c := c) (l := l) (i := j + 2) (by omega) (by omega)).2.1
    rw [show j + 2 + 1 = j + 3 by omega] at td
    have O4 : oS σ s4 := O3.trans (o4.S (fun b hb => jR_rcl b (by revert b; decide)))
    rw [xqi_i]
    refine r_need (k0 := 0) H (by decide) (S4.n b2) (fun e s' he f => ?_) (fun s5 h5 S5 o5 => ?_)
    · rw [xqi_i]
      refine ⟨fun _ => ?_, fun y => absurd rfl y⟩
      unfold w_VectorSolverModel_command_207
      exact f207 _ _ e s' (hY.trans (by rw [eb_er (show pX c l (j + 3) 0 = .error e from he)]; rfl)) (fe e s4 s' O4 (bex.refl _) f)
    have h5 : pX c l (j + 3) 0 = .ok () := h5
    have S5 : RS c l N B (j + 3) s5 := S5
    rw [eb_ok h5] at hY
    have k3 := pX_i h5
    have b3 := H.lt (i := j + 3) S5.2.2.2.2.2.2.1 (by omega)
    have te := (tok_0 k3).1
    rw [show j + 3 + 1 = j + 4 by omega] at te
    have O5 : oS σ s5 := O4.trans (o5.S (fun b hb => jR_rcl b (by revert b; decide)))
    rw [xqi_i]
    refine ⟨fun y => absurd y (by decide), fun _ => ?_⟩
    refine r_need (k0 := 1) H (by decide) (S5.n b3) (fun e s' he f => ?_) (fun s6 h6 S6 o6 => ?_)
    · rw [xqi_i]
      refine ⟨fun _ => ?_, fun y => absurd rfl y⟩
      unfold w_VectorSolverModel_command_207
      exact f207 _ _ e s' (hY.trans (by rw [eb_er (show pX c l (j + 4) 1 = .error e from he)]; rfl)) (fe e s5 s' O5 (bex.refl _) f)
    have h6 : pX c l (j + 4) 1 = .ok () := h6
    have S6 : RS c l N B (j + 4) s6 := S6
    rw [eb_ok h6] at hY
    have k4 := pX_i h6
    have b4 := H.lt (i := j + 4) S6.2.2.2.2.2.2.1 (by omega)
    have tg := H.t1 (i := j + 4) S6.2.2.2.2.2.2.1 k4
    rw [show j + 4 + 1 = j + 5 by omega] at tg
    have O6 : oS σ s6 := O5.trans (o6.S (fun b hb => jR_rcl b (by revert b; decide)))
    rw [xqi_i]
    refine ⟨fun y => absurd y (by decide), fun _ => ?_⟩
    unfold w_VectorSolverModel_command_208
    refine r_next H (S6.n b4) (fun s' y f => ?_) (fun s7 S7 o7 => ?_)
    · rw [xqv_v]
      have y : 16 ≤ tK c l (j + 5) := y
      have f' := fe _ s6 s' O6 (bex.refl _) f
      exact ⟨fun _ => f224 _ _ s' (hY.trans (by rw [eb_er (pSo_bad y)]; rfl)) f', fun x => absurd x f'.X.1⟩
    have S7 : RS c l N B (j + 5) s7 := S7
    have O7 : oS σ s7 := O6.trans (o7.S (fun b hb => jR_rcl b (by revert b; decide)))
    rw [xqv_v]
    refine ⟨fun y => absurd S7.2.2.2.1 y, fun _ => ?_⟩
    refine r_sort H S7 (fun e s' he f => ?_) (fun s k s8 h8 S8 h53 h54 o8 => ?_)
    · rw [xqv_v]
      exact f224 _ e s' (hY.trans (by rw [eb_er he]; rfl)) (fe e s7 s' O7 (bex.refl _) f)
    rw [xqv_v]
    rw [eb_ok h8] at hY
    obtain ⟨q1, q2, q3, q4, q5⟩ := pSo_i H (i := j + 5) S7.2.2.2.2.2.2.1 h8
    have O8 : oS σ s8 := O7.trans (o8.S (fun b hb => jR_rcl b (by revert b; decide)))
    unfold w_VectorSolverModel_command_224
    rw [h53, h54]
    intro x21 e21 x22 e22
    subst e21 e22
    refine r_told (so := s) H g (S8.n q4) (by omega) q2 (fun e s' t he f => ?_) (fun r s9 hr hs S9 h55 o9 => ?_)
    · rw [xqi_i]
      have hy : Y = .error e := by
        rw [hY]
        dsimp only
        cases q : pTm c l 59 [] 0 B (k + 1) with
        | error e' =>
          rw [eb_er q] at he
          rw [eb_er (eb_er rfl)]
          cases he
          rfl
        | ok r =>
          rw [eb_ok q] at he
          by_cases z : bso r.2.1 r.1 = s
          · rw [if_pos z] at he; cases he
          · rw [if_neg z] at he
            rw [eb_ok rfl, if_neg z]
            cases he
            rfl
      unfold w_VectorSolverModel_command_260
      exact ⟨fun _ => f344 e s' hy (fe e s8 s' O8 (bex.refl _) f), fun y => absurd y f.X.1⟩
    obtain ⟨p1, p2, p3, p4, p5, p6⟩ := pTm_ok H 59 [] _ _ (k + 1) _ (by decide) g (fun e he => absurd he (by simp)) q4 hr
    dsimp only at hY
    rw [eb_ok hr, if_pos hs] at hY
    have en : bna r.2.1 = bna B := p2.2
    have e17 : r.2.1.1 17 (bna B) = B.1 17 (bna B) := p2.1.1 17 _ (Nat.lt_succ_self _)
    rw [xqi_i]
    refine ⟨fun y => absurd S9.2.2.2.1 y, fun _ => ?_⟩
    refine r_addName (w := j + 2) H S9.1 S9.2.1 S9.2.2.1 p1.2.2.1.2.1 (by omega) m1 (by rw [en]; exact m4) (by rw [en, e17]; exact m5) (fun s10 R10 o10 => ?_)
    rw [xqi_i]
    unfold w_VectorSolverModel_command_260
    exact fin (addNm r.2.1 (tW c l (j + 2)) r.1, r.2.2) s10 hY (p2.1.trans bex_N) p5 (S9.k o10.S (o10.1 50 4 (by omega) (by omega)) (o10.1 50 5 (by omega) (by omega)) (o10.1 50 10 (by omega) (by omega)) R10) ((O8.trans o9).trans o10.S)
  · -- declare
    rw [if_pos k0] at hY
    obtain ⟨b1, o2⟩ := b1 _ k0
    unfold pDc at hY
    refine r_fresh H g (S3.n b1) (fun e s' x he f => ?_) (fun s4 h4 S4 o4 => ?_)
    · rw [xqi_i]
      have f' := fe e s3 s' O3 (bex.refl _) f
      have hy : Y = .error e := hY.trans (by rw [eb_er (show pNew c l B (j + 2) = .error e from he)]; rfl)
      refine n_next f'.X ?_
      rw [xqv_v]
      exact ⟨fun _ => f64 _ e s' hy f', fun y => absurd y f'.X.1⟩
    have h4 : pNew c l B (j + 2) = .ok () := h4
    have S4 : RS c l N B (j + 2) s4 := S4
    rw [eb_ok h4] at hY
    obtain ⟨m1, m2, m3, m4, m5⟩ := pNew_i h4
    have b2 := H.lt (i := j + 2) S4.2.2.2.2.2.2.1 (by omega)
    have O4 : oS σ s4 := O3.trans (o4.S (fun b hb => jR_rcl b (by revert b; decide)))
    rw [xqi_i]
    refine r_next H (S4.n b2) (fun s' y f => ?_) (fun s7 S7 o7 => ?_)
    · rw [xqv_v]
      have y : 16 ≤ tK c l (j + 3) := y
      have f' := fe _ s4 s' O4 (bex.refl _) f
      exact ⟨fun _ => f64 _ _ s' (hY.trans (by rw [eb_er (pSo_bad y)]; rfl)) f', fun x => absurd x f'.X.1⟩
    have S7 : RS c l N B (j + 3) s7 := S7
    have O7 : oS σ s7 := O4.trans (o7.S (fun b hb => jR_rcl b (by revert b; decide)))
    rw [xqv_v]
    refine ⟨fun y => absurd S7.2.2.2.1 y, fun _ => ?_⟩
    refine r_sort H S7 (fun e s' he f => ?_) (fun s k s8 h8 S8 h53 h54 o8 => ?_)
    · rw [xqv_v]
      exact f64 _ e s' (hY.trans (by rw [eb_er he]; rfl)) (fe e s7 s' O7 (bex.refl _) f)
    rw [xqv_v]
    rw [eb_ok h8] at hY
    obtain ⟨q1, q2, q3, q4, q5⟩ := pSo_i H (i := j + 3) S7.2.2.2.2.2.2.1 h8
    have O8 : oS σ s8 := O7.trans (o8.S (fun b hb => jR_rcl b (by revert b; decide)))
    have sl := szs_le q1
    have t8 := S8.2.1.t (j := j + 2) (by omega)
    have hi8 := S8.2.2.2.2.2.2.1
    unfold w_VectorSolverModel_command_64
    rw [h53, h54]
    refine ⟨fun y => absurd S8.2.2.2.1 y, fun _ => ?_⟩
    refine r_szs q1 ?_
    rw [xqi_i, nI_clamp (n := j + 2) (by omega), t8.2.1]
    refine ⟨vp_in_nI (by omega) (by decide), ?_⟩
    refine r_make (B := B) (o := 0) (ix := s / 128) (wd := s % 128) (wt := szs s) (beg := tF c l (j + 2)) S8.2.2.1 g S8.2.2.2.1 S8.2.2.2.2.2.1 (by omega) (by omega) (fun e s' hm f => ?_) (fun s9 c1 c2 M => ?_)
    · rw [xqi_i]
      exact f105 _ _ e s' (hY.trans (by rw [eb_er (eb_er (hm _ _ _ _ _))])) (fe e s8 s' O8 (bex.refl _) f)
    rw [xqi_i]
    dsimp only at hY
    rw [eb_ok (pMk_ok c1 c2)] at hY
    have fr := M.2.1
    have ma := g.1.1.1
    have R9 : RR (addT (wtB B (bwe B + szs s)) 47 s (bth B) 0#64 []) s9 := by
      refine RR_T (σ := s8) S8.2.2.1 g M.1.1 ?_ M.1.2.1 (fun j hj => ?_) M.1.2.2.1 M.1.2.2.2.1 M.1.2.2.2.2.1 M.1.2.2.2.2.2.1 M.1.2.2.2.2.2.2.1 (fun z => absurd z (by decide)) (fun z => absurd z (by decide)) (fun k t q1 q2 q3 => fr k t (by omega) (by omega)) (fun t ht => M.2.2.1 64 t (by omega)) (fun i hi => fr 65 i (by omega) (by omega)) (fun k hk => absurd hk (by simp)) (fun k j hk => fr k j (by omega) (by omega))
      · rw [fr 50 21 (by omega) (by omega)]; exact S8.2.2.1.1.2.1
      · have hj' : j = 23 ∨ j = 27 ∨ j = 42 ∨ j = 45 := by simpa using hj
        exact fr 50 j (by omega) (by omega)
    generalize hB1 : addT (wtB B (bwe B + szs s)) 47 s (bth B) 0#64 [] = B1 at R9 hY
    have e0 : ∀ a b, ¬ (a = 6 ∧ b = 10) → (wtB B (bwe B + szs s)).1 a b = B.1 a b := fun a b q => wB_k q
    have n5 : ∀ j, B1.1 5 j = B.1 5 j := fun j => by rw [← hB1, aT_5]; exact e0 5 j (by omega)
    have n16 : ∀ k j, 16 ≤ k → B1.1 k j = B.1 k j := fun k j h => by rw [← hB1, aT_k h]; exact e0 k j (by omega)
    have en : bna B1 = bna B := n5 4
    have et : bth B1 = bth B := n5 8
    have e8 : bso B1 (bma B) = s := by
      rw [← hB1]
      show (addT (wtB B (bwe B + szs s)) 47 s (bth B) 0#64 []).1 8 (bma B) = s
      rw [aT_8, if_pos wB_m.symm]
    have e21 : bsz B1 = bsz B := by show B1.1 21 (B1.1 5 8) = _; rw [n5, n16 21 _ (by decide)]
    have o9 : oS s8 s9 := ⟨fun a b q => fr a b (fun z => q (by unfold rcl; omega)) (fun z => q (by unfold rcl; omega)), fun a b q => M.2.2.1 a b (by omega), M.2.2.2⟩
    have S9 : RS c l N B1 k s9 := S8.k o9 (fr 50 4 (by omega) (by omega)) (fr 50 5 (by omega) (by omega)) (fr 50 10 (by omega) (by omega)) R9
    unfold w_VectorSolverModel_command_105
    refine ⟨fun y => absurd S9.2.2.2.1 y, fun _ => ?_⟩
    have th5 := g.2.2.2.1
    have na5 := g.1.1.2.2.2.2.2.1
    refine r_addName (w := j + 2) (B := B1) H S9.1 S9.2.1 R9 (by rw [n16 17 _ (by decide)]; exact nm.2.1) (by omega) m1 (by rw [en]; exact m4) (by rw [en, n16 17 _ (by decide)]; exact m5) (fun s10 R10 o10 => ?_)
    have x42 : xi s10 50 42 = nI (bth B) := by rw [o10.1 50 42 (by omega) (by omega), R9.1.2.2.2.2.1, et]
    have x45 : xi s10 50 45 = nI (bsz B) := by rw [o10.1 50 45 (by omega) (by omega), R9.1.2.2.2.2.2.2, e21]
    have x53 : xi s10 50 53 = nI (s / 128) := by rw [o10.1 50 53 (by omega) (by omega), fr 50 53 (by omega) (by omega)]; exact h53
    have x54 : xi s10 50 54 = nI (s % 128) := by rw [o10.1 50 54 (by omega) (by omega), fr 50 54 (by omega) (by omega)]; exact h54
    rw [xqi_i, nI_clamp (n := bma B) (by omega)]
    refine ⟨vp_in_nI (by omega) (by decide), fun s37 e37 => ?_⟩
    have y42 : xi s37 50 42 = nI (bth B) := by rw [e37, xi_pi, if_neg (by omega)]; exact x42
    rw [y42, nI_clamp (n := bth B) (by omega)]
    refine ⟨vp_in_nI (by omega) (by decide), fun s38 e38 s39 e39 => ?_⟩
    have z42 : xi s38 50 42 = nI (bth B) := by rw [e38, xi_pi, if_neg (by omega)]; exact y42
    rw [z42, show (1 : Int32) = nI 1 from rfl, nI_add] at e39
    have c39 : ∀ a b, ¬ (a = 63 ∧ b = bma B) → ¬ (a = 80 ∧ b = bth B) → ¬ (a = 50 ∧ b = 42) → xi s39 a b = xi s10 a b := fun a b q1 q2 q3 => by rw [e39, xi_pi, if_neg q3, e38, xi_pi, if_neg q2, e37, xi_pi, if_neg q1]
    rw [c39 50 53 (by omega) (by omega) (by omega), x53, c39 50 54 (by omega) (by omega) (by omega), x54]
    refine r_szs q1 ?_
    rw [xqi_i, c39 50 45 (by omega) (by omega) (by omega), x45, nI_add]
    intro s42 e42
    have c42 : ∀ a b, ¬ (a = 63 ∧ b = bma B) → ¬ (a = 80 ∧ b = bth B) → ¬ (a = 50 ∧ (b = 42 ∨ b = 45)) → xi s42 a b = xi s10 a b := fun a b q1 q2 q3 => by rw [e42, xi_pi, if_neg (by omega), c39 a b q1 q2 (by omega)]
    have l42 : ∀ a b, xl s42 a b = xl s10 a b := fun a b => by rw [e42, xl_pi, e39, xl_pi, e38, xl_pi, e37, xl_pi]
    have tlt : ∀ i, i < bth B → btt B i < bma B := fun i hi => (g.1.2.2.2.2.1 i hi).1
    have R42 : RR (addNm (addTh B1 (bma B)) (tW c l (j + 2)) (bma B)) s42 := by
      refine RR_NH R10 ?_ ?_ (fun j hj => c42 50 j (by omega) (by omega) (fun z => by
        have hj' : j = 11 ∨ j = 21 ∨ j = 23 ∨ j = 27 ∨ j = 44 := by simpa using hj
        omega)) ?_ (fun i hi => ?_) ?_ (fun i hi => ?_) (fun k j hk => c42 k j (by omega) (by omega) (by omega)) (fun j => l42 64 j)
      · rw [et, e42, xi_pi, if_neg (by omega), e39, xi_pi, if_pos ⟨rfl, rfl⟩]
      · rw [e21, e8, e42, xi_pi, if_pos ⟨rfl, rfl⟩]
      · rw [en, e42, xi_pi, if_neg (by omega), e39, xi_pi, if_neg (by omega), e38, xi_pi, if_neg (by omega), e37, xi_pi, if_pos ⟨rfl, rfl⟩, en]
      · rw [et] at hi
        have q : btt B1 i = btt B i := n16 19 i (by decide)
        have := tlt i hi
        rw [q]
        exact c42 63 _ (by omega) (by omega) (by omega)
      · rw [et, e42, xi_pi, if_neg (by omega), e39, xi_pi, if_neg (by omega), e38, xi_pi, if_pos ⟨rfl, rfl⟩]
      · rw [et] at hi
        exact c42 80 i (by omega) (by omega) (by omega)
    have o42 : oS s10 s42 := ⟨fun a b q => c42 a b (fun z => q (by unfold rcl; omega)) (fun z => q (by unfold rcl; omega)) (fun z => q (by unfold rcl; omega)), fun a b _ => l42 a b, by rw [e42, e39, e38, e37]; rfl⟩
    have f4 : xi s42 50 4 = xi s9 50 4 := (c42 50 4 (by omega) (by omega) (by omega)).trans (o10.1 50 4 (by omega) (by omega))
    have f5 : xi s42 50 5 = xi s9 50 5 := (c42 50 5 (by omega) (by omega) (by omega)).trans (o10.1 50 5 (by omega) (by omega))
    have f10 : xi s42 50 10 = xi s9 50 10 := (c42 50 10 (by omega) (by omega) (by omega)).trans (o10.1 50 10 (by omega) (by omega))
    have xB1 : bex B B1 := by rw [← hB1]; exact bex_W.trans bex_T
    unfold w_VectorSolverModel_command_165
    exact fin (addNm (addTh B1 (bma B)) (tW c l (j + 2)) (bma B), k) s42 hY ((xB1.trans bex_H).trans bex_N) q4 (S9.k (o10.S.trans o42) f4 f5 f10 R42) (((O8.trans o9).trans o10.S).trans o42)
end RCM
