/-! THE REFERENCE READS: let, and any term -/
section RT2
variable {c : Nat → Nat} {l N : Nat} {B : Bk} {i j p h nb m n : Nat} {σ σ' : xS} {Q : xO → xS → Prop} {E : Nat → Nat × Nat × Bool} {Lt : Nat → Nat}
theorem r_opL (H : okN c l N) (S : RS c l N B i σ) (k0 : tK c l i = 0) (hR : tR c l (i + 1) = some 9) (hP : RP p h nb σ) (hp : p < 63) (hE : RE c l N E Lt p nb σ) (hn : nb ≤ 16) (X : PE (Nat × Bk × Nat)) (hX : X = pLt c l (pTm c l n) (vsl c l E nb) nb B i)
    (kf : ∀ e σ', X = .error e → RFl B e σ σ' → Q (.inl (some (.int 0))) σ')
    (ko : ∀ σ', tK c l (i + 3 + 1) = 5 → nb + 0 < 16 → od c l (i + 3 + 1) = od c l (i + 1) + 2 → RS c l N B (i + 3 + 2) σ' → RP (p + 1) h (nb + 0 + 1) σ' → (∀ t, RE c l N (EE (fun k => if k = 0 then (i + 3 + 1, t) else (0, 0)) nb E false) (LL nb p Lt) (p + 1) (nb + 0 + 1) σ') → xi σ' 70 p = nI 1 → RE c l N E Lt p nb σ' → RPF p h nb σ σ' →
      X = eb (eb (pTm c l n (vsl c l E nb) (nb + 0 + 1) B (i + 3 + 2)) fun r => eb (pX c l (r.2.2 + 1) 1) fun _ => if tK c l (r.2.2 + 2) = 0 then pBs c l (pTm c l n) (vsl c l E nb) nb 16 r.2.1 (r.2.2 + 2) ((tW c l (i + 3 + 1), r.1) :: nvl c l (fun _ => (0, 0)) 0) else .ok (r.2.1, r.2.2 + 2, (tW c l (i + 3 + 1), r.1) :: nvl c l (fun _ => (0, 0)) 0)) (pLb c l n (vsl c l E nb) nb) → Q (.inl (some (.int 0))) σ') : wp_VectorSolverModel_opening Q σ := by
  have n1 := H.1
  have hi := S.2.2.2.2.2.2.1
  have b0 := H.lt (i := i) hi (by omega)
  have k1 := (tok_R hR).1
  have vp : vp_in (nI p) 64 := vp_in_nI (by omega) (by decide)
  have cp : (nI p).toNatClampNeg = p := nI_clamp (by omega)
  have vi : vp_in (nI i) 65537 := vp_in_nI (by omega) (by decide)
  have vj : vp_in (nI (i + 1)) 65537 := vp_in_nI (by omega) (by decide)
  have tl := (tok_2 (c := c) (l := l) (i := i + 1) (by omega) (by omega)).2.1
  rw [show i + 1 + 1 = i + 2 by omega] at tl
  unfold pLt at hX
  unfold wp_VectorSolverModel_opening
  rw [S.2.2.2.2.2.1]
  intro x1 e1
  subst e1
  refine r_next H (S.n b0) (fun σ' z f => absurd z (by omega)) (fun s2 S2 o2 => ?_)
  have hp2 : xi s2 50 29 = nI p := (o2.at (by decide)).trans hP.1
  have tki := S2.2.1.t (j := i) hi
  have tkj := S2.2.1.t (j := i + 1) S2.2.2.2.2.2.2.1
  have b1 := H.lt (i := i + 1) S2.2.2.2.2.2.2.1 (by omega)
  rw [xqv_v, S2.2.2.2.1, hp2, cp, nI_clamp (n := i) (by omega), tki.2.1]
  refine ⟨fun _ => ⟨vi, vp, fun s4 e4 => ?_⟩, fun z => absurd (Int32.le_refl _) z⟩
  have O4 : oO p s2 s4 := by rw [e4]; exact oO.pi (by decide)
  have S4 : RS c l N B (i + 1) s4 := by rw [e4]; exact S2.o (by decide)
  clear e4
  rw [O4.1 50 29 (by omega) (by omega), hp2, cp]
  refine ⟨vp, fun s5 e5 => ?_⟩
  have O5 : oO p s2 s5 := O4.trans (by rw [e5]; exact oO.pi (by decide))
  have S5 : RS c l N B (i + 1) s5 := by rw [e5]; exact S4.o (by decide)
  clear e5
  rw [S5.2.2.2.2.2.1, nI_clamp (n := i + 1) (by omega), O5.1 55 (i + 1) (by omega) (by omega), tkj.2.2.2, show (48 : Int32) = nI (ridx 9) from rfl, rix_eq (fun m h => tR_lt h) (by decide)]
  refine ⟨vj, fun z => absurd hR z, fun _ => ?_⟩
  rw [O5.1 50 29 (by omega) (by omega), hp2, cp]
  refine ⟨vp, fun s31 e31 s32 e32 => ?_⟩
  have O31 : oO p s2 s31 := O5.trans (by rw [e31]; exact oO.pi (by decide))
  have S31 : RS c l N B (i + 1) s31 := by rw [e31]; exact S5.o (by decide)
  have y70 : xi s31 70 p = nI 1 := by rw [e31, xi_pi, if_pos ⟨rfl, rfl⟩]; rfl
  clear e31
  rw [O31.1 50 29 (by omega) (by omega), hp2, show (1 : Int32) = nI 1 from rfl, nI_add] at e32
  have o32 : oE [29] s31 s32 := by rw [e32]; exact oE.pi _ _ _ (by decide)
  have x29 : xi s32 50 29 = nI (p + 1) := by rw [e32, xi_pi, if_pos ⟨rfl, rfl⟩]
  clear e32
  have S32 : RS c l N B (i + 1) s32 := S31.e o32 (by decide)
  have h70 : xi s32 70 p = nI 1 := (o32.ne (by decide)).trans y70
  have O2 : oO p σ s31 := (oE.O o2).trans O31
  have F32 : RPF p h nb σ s32 := by
    refine RPF.trans ⟨O2.S, fun a b q1 q2 q3 => O2.1 a b (by omega) (by omega), fun b q => O2.1 76 b (by omega) (by omega), fun a b q1 q2 q3 => O2.1 a b (by omega) (by omega)⟩ (o32.P (fun b hb => jR_rcl b (by revert b; decide)))
  have P32 : RP (p + 1) h (nb + 0) s32 := ⟨x29, (o32.at (by decide)).trans ((O2.1 50 36 (by omega) (by omega)).trans hP.2.1), (o32.at (by decide)).trans ((O2.1 50 38 (by omega) (by omega)).trans hP.2.2)⟩
  have f97 : ∀ e s, X = .error e → RFl B e s32 s → w_VectorSolverModel_opening_97 Q s := fun e s hx f => by
    unfold w_VectorSolverModel_opening_97 w_VectorSolverModel_opening_98
    refine n_bind f.X ?_
    rw [xqv_v]
    refine n_next f.X ?_
    rw [xqv_v]
    exact kf e s hx (RFl.pre F32.1 (bex.refl _) f)
  refine r_need (k0 := 0) H (by decide) (S32.n b1) (fun e s' he f => ?_) (fun s33 h33 S33 o33 => ?_)
  · rw [xqi_i]
    exact ⟨fun _ => f97 e s' (hX.trans (eb_er he)) f, fun z => absurd rfl z⟩
  have h33 : pX c l (i + 2) 0 = .ok () := h33
  have S33 : RS c l N B (i + 2) s33 := S33
  rw [eb_ok h33] at hX
  have k2 := pX_i h33
  have b2 := H.lt (i := i + 2) S33.2.2.2.2.2.2.1 (by omega)
  have t2 := (tok_0 k2).1
  rw [show i + 2 + 1 = i + 3 by omega] at t2
  rw [xqi_i]
  refine ⟨fun z => absurd z (by decide), fun _ => ?_⟩
  refine r_need (k0 := 0) H (by decide) (S33.n b2) (fun e s' he f => ?_) (fun s39 h39 S39 o39 => ?_)
  · rw [xqi_i]
    exact ⟨fun _ => f97 e s' (hX.trans (eb_er he)) (RFl.e o33 (by decide) f), fun z => absurd rfl z⟩
  have h39 : pX c l (i + 3) 0 = .ok () := h39
  have S39 : RS c l N B (i + 3) s39 := S39
  rw [eb_ok h39] at hX
  have k3 := pX_i h39
  have b3 := H.lt (i := i + 3) S39.2.2.2.2.2.2.1 (by omega)
  have t3 := (tok_0 k3).1
  rw [xqi_i]
  refine ⟨fun z => absurd z (by decide), fun _ => ?_⟩
  have o3239 : oE [10] s32 s39 := o33.trans o39
  have F39 : RPF p h nb σ s39 := F32.trans o3239.P10
  have P39 := P32.e o3239 (by decide)
  have h70' : xi s39 70 p = nI 1 := (o3239.ne (by decide)).trans h70
  have E39 := hE.keep F39
  have L39 : RL c l N (fun _ => (0, 0)) nb E Lt p 0 s39 := by
    refine ⟨fun b hb => ?_, fun k hk => absurd hk (by omega), fun b hb => (hE b hb).2.2.2.1, h70'⟩
    have hb : b < nb := hb
    rw [EE_lt hb, LL_lt hb]
    obtain ⟨f1, f2, f3, f4, f5, f6⟩ := E39 b hb
    exact ⟨f1, f2, f3, by omega, f5, f6⟩
  have ux : pBs c l (pTm c l n) (vsl c l E nb) nb 17 B (i + 3) [] = eb (pX c l (i + 3 + 1) 5) fun _ => if tR c l (i + 3 + 1) ≠ none ∨ vlk (nvl c l (fun _ => (0, 0)) 0) (tW c l (i + 3 + 1)) ≠ none then .error (6, tF c l (i + 3 + 1)) else if 16 ≤ nb + 0 then .error (11, tF c l (i + 3 + 1)) else eb (pTm c l n (vsl c l E nb) (nb + 0 + 1) B (i + 3 + 2)) fun r => eb (pX c l (r.2.2 + 1) 1) fun _ => if tK c l (r.2.2 + 2) = 0 then pBs c l (pTm c l n) (vsl c l E nb) nb 16 r.2.1 (r.2.2 + 2) ((tW c l (i + 3 + 1), r.1) :: nvl c l (fun _ => (0, 0)) 0) else .ok (r.2.1, r.2.2 + 2, (tW c l (i + 3 + 1), r.1) :: nvl c l (fun _ => (0, 0)) 0) := rfl
  have hX : X = eb (pBs c l (pTm c l n) (vsl c l E nb) nb 17 B (i + 3) []) (pLb c l n (vsl c l E nb) nb) := hX
  unfold w_VectorSolverModel_opening_98
  refine r_bind (h := h) (m := 0) (P := fun _ => (0, 0)) H S39 b3 L39 P39 (by omega) (by omega) _ _ ux (fun e s' he f => ?_) (fun s4 hK k5 hlt S4 P4 F4 E4 => ?_)
  · rw [xqv_v]
    refine n_next f.X ?_
    rw [xqv_v]
    exact kf e s' (hX.trans (eb_er he)) (RFl.pre F39.1 (bex.refl _) f)
  · rw [xqv_v]
    rw [hK] at hX
    have b4 := H.lt (i := i + 3 + 1) S4.2.2.2.2.2.2.1 (by omega)
    refine r_next H (S4.n b4) (fun s' y f => ?_) (fun s5 S5 o5 => ?_)
    · rw [xqv_v]
      have y : 16 ≤ tK c l (i + 3 + 2) := y
      exact kf _ s' (hX.trans (eb_er (eb_er (pTm_bad y)))) (RFl.pre (F39.1.trans F4.1) (bex.refl _) f)
    · rw [xqv_v]
      refine ko s5 k5 hlt (by omega) S5 (P4.e o5 (by decide)) (fun t => (E4 t).keep (h := h) o5.P10) ?_ ((E39.keep (F4.le (by omega) (Nat.le_refl _) (by omega) : RPF p h nb s39 s4)).keep (h := h) o5.P10) (F39.trans ((F4.le (by omega) (Nat.le_refl _) (by omega)).trans o5.P10)) hX
      rw [o5.ne (by decide), F4.2.1 70 p (by decide) (by decide) (by omega)]
      exact h70'
theorem r_atomA {t0 : Int32} (H : okN c l N) (g : gB B) (S : RS c l N B i σ) (hP : RP p h nb σ) (hE : RE c l N E Lt p nb σ) (hv : ∀ e ∈ vsl c l E nb, e.2 < bma B) (hn : nb ≤ 16) (hp : p < 64) (k0 : tK c l i ≠ 0) (hm : N + 1 < m + i)
    (kf : ∀ e σ' t, pAt c l (vsl c l E nb) B i = .error e → RFl B e σ σ' → Q (.inl (some (.int t))) σ')
    (ko : ∀ r σ' m' m2, pAt c l (vsl c l E nb) B i = .ok r → N < m' + r.2.2 → p + 2 ≤ m2 → RS c l N r.2.1 r.2.2 σ' → RP p h nb σ' → RPF p h nb σ σ' → w_VectorSolverModel_term_142 Q (w_VectorSolverModel_term_19 Q m') m2 0 (nI r.1) 1 σ') : w_VectorSolverModel_term_19 Q m 0 t0 σ := by
  have n1 := H.1
  have hi := S.2.2.2.2.2.2.1
  obtain ⟨m0, rfl⟩ : ∃ m0, m = m0 + 1 := ⟨m - 1, by omega⟩
  have vi : vp_in (nI i) 65537 := vp_in_nI (by omega) (by decide)
  have t1 := (tK_32 (j := i) H).1
  have tk := S.2.1.t (j := i) hi
  have fa : ∀ e σ' x w, pAt c l (vsl c l E nb) B i = .error e → RFl B e σ σ' → ∃ m2, w_VectorSolverModel_term_142 Q (w_VectorSolverModel_term_19 Q m0) m2 0 x w σ' := fun e σ' x w he f => ⟨1, fx142 f.X (fx19 f.X (kf e σ' x he f) (by omega)) (by omega)⟩
  have oa : ∀ r σ', pAt c l (vsl c l E nb) B i = .ok r → RS c l N r.2.1 r.2.2 σ' → oA σ σ' → ∃ m2, w_VectorSolverModel_term_142 Q (w_VectorSolverModel_term_19 Q m0) m2 0 (nI r.1) 1 σ' := fun r σ' hr S' A' => ⟨p + 2, ko r σ' m0 (p + 2) hr (by have := (pAt_ok H g hv hi hr).2.2.2.1; omega) (by omega) S' (hP.A A') A'.P⟩
  have cst : tK c l i = 3 ∨ tK c l i = 4 → w_VectorSolverModel_term_82 Q (w_VectorSolverModel_term_19 Q m0) 0 σ := fun z => by
    unfold w_VectorSolverModel_term_82
    refine r_const (vis := vsl c l E nb) H g S z (fun e σ' x he f => ?_) (fun r σ' hr S' A' => ?_)
    · rw [xqi_i]; exact fa e σ' x 1 he f
    · rw [xqi_i]; exact oa r σ' hr S' A'
  unfold w_VectorSolverModel_term_19
  rw [S.2.2.2.1, S.2.2.2.2.2.1, nI_clamp (n := i) (by omega), tk.1, show (6 : Int32) = nI (5 + 1) from rfl, show (4 : Int32) = nI (3 + 1) from rfl, show (5 : Int32) = nI (4 + 1) from rfl, show (1 : Int32) = nI (0 + 1) from rfl, rk_k _ t1 5 (by decide), rk_k _ t1 3 (by decide), rk_k _ t1 4 (by decide), rk_k _ t1 0 (by decide)]
  refine ⟨fun z => absurd rfl z, fun _ => ⟨fun z => absurd rfl z, fun _ => ⟨vi, fun z5 => ⟨vi, fun z3 => cst (.inl z3), fun z3 => ⟨vi, fun z4 => ⟨vi, fun _ => ?_, fun z0 => absurd z0 k0⟩, fun z4 => cst (.inr z4)⟩⟩, fun z5 => ?_⟩⟩⟩
  · unfold w_VectorSolverModel_term_111
    refine r_mustF H S rfl (fun σ' f => ?_)
    rw [xqi_i]
    refine ⟨fun _ => fa (badT c l i) σ' t0 0 ?_ f, fun z => absurd rfl z⟩
    unfold pAt
    rw [if_neg z5, if_neg z3, if_neg z4]
  · refine r_sym H g S z5 hE hP.2.2 hn hp (fun e σ' x he f => ?_) (fun r σ' hr S' A' => ?_)
    · rw [xqi_i]; exact fa e σ' x 1 he f
    · rw [xqi_i]; exact oa r σ' hr S' A'
/-- any term -/
theorem r_trm (H : okN c l N) : ∀ n, rT c l N n := by
  intro n
  induction n with
  | zero =>
    intro Q σ B p h nb i E Lt m t0 g S hP hE hv hn hpn hh ho hm kf ko
    have k0 : tK c l i ≠ 0 := fun z => by
      have := (tok_0 z).2.1
      omega
    have u : pTm c l 0 (vsl c l E nb) nb B i = pAt c l (vsl c l E nb) B i := if_neg k0
    rw [u] at kf ko
    exact r_atomA H g S hP hE hv hn (by omega) k0 hm kf ko
  | succ n ih =>
    intro Q σ B p h nb i E Lt m t0 g S hP hE hv hn hpn hh ho hm kf ko
    by_cases k0 : tK c l i ≠ 0
    · have u : pTm c l (n + 1) (vsl c l E nb) nb B i = pAt c l (vsl c l E nb) B i := if_neg k0
      rw [u] at kf ko
      exact r_atomA H g S hP hE hv hn (by omega) k0 hm kf ko
    have k0 : tK c l i = 0 := Decidable.of_not_not k0
    have u : pTm c l (n + 1) (vsl c l E nb) nb B i = pBr c l (pTm c l n) (vsl c l E nb) nb B i := if_pos k0
    rw [u] at kf ko
    clear u
    obtain ⟨X, hX⟩ : ∃ X, X = pBr c l (pTm c l n) (vsl c l E nb) nb B i := ⟨_, rfl⟩
    rw [← hX] at kf ko
    unfold pBr at hX
    have n1 := H.1
    have hi := S.2.2.2.2.2.2.1
    have b0 := H.lt (i := i) hi (by omega)
    have od0 := (tok_0 k0).1
    obtain ⟨m0, rfl⟩ : ∃ m0, m = m0 + 1 := ⟨m - 1, by omega⟩
    have vi : vp_in (nI i) 65537 := vp_in_nI (by omega) (by decide)
    have t1 := (tK_32 (j := i) H).1
    have tk := S.2.1.t (j := i) hi
    have hLt : ∀ b, b < nb → Lt b < p := fun b hb => (hE b hb).2.2.2.1
    have fa : ∀ e σ' x w, X = .error e → RFl B e σ σ' → ∃ m2, w_VectorSolverModel_term_142 Q (w_VectorSolverModel_term_19 Q m0) m2 0 x w σ' := fun e σ' x w he f => ⟨1, fx142 f.X (fx19 f.X (kf e σ' x he f) (by omega)) (by omega)⟩
    unfold w_VectorSolverModel_term_19
    rw [S.2.2.2.1, S.2.2.2.2.2.1, nI_clamp (n := i) (by omega), tk.1, show (6 : Int32) = nI (5 + 1) from rfl, show (4 : Int32) = nI (3 + 1) from rfl, show (5 : Int32) = nI (4 + 1) from rfl, show (1 : Int32) = nI (0 + 1) from rfl, rk_k _ t1 5 (by decide), rk_k _ t1 3 (by decide), rk_k _ t1 4 (by decide), rk_k _ t1 0 (by decide)]
    refine ⟨fun z => absurd rfl z, fun _ => ⟨fun z => absurd rfl z, fun _ => ⟨vi, fun z5 => ⟨vi, fun z3 => absurd z3 (by omega), fun z3 => ⟨vi, fun z4 => ⟨vi, fun z0 => absurd k0 z0, fun _ => ?_⟩, fun z4 => absurd z4 (by omega)⟩⟩, fun z5 => absurd z5 (by omega)⟩⟩⟩
    unfold w_VectorSolverModel_term_111
    refine r_mustT H S (by decide) ?_
    rw [xqi_i]
    refine ⟨fun z => absurd z (by decide), fun _ => ?_⟩
    by_cases kR : tR c l (i + 1) = some 9
    · rw [if_pos kR] at hX
      refine r_opL (n := n) H S k0 kR hP (by omega) hE hn X hX (fun e σ' he f => ?_) (fun s' k5 h16 od1 S' P' E' h70 hE' F' hx => ?_)
      · rw [xqi_i]
        exact ⟨fun _ => fa e σ' _ _ he f, fun z => absurd rfl z⟩
      · rw [xqi_i]
        refine ⟨fun _ => ⟨1, ex142 S'.2.2.2.1 ?_ (by omega)⟩, fun z => absurd rfl z⟩
        refine r_bnds (nb := nb) H ih hLt hv (by omega) hh (od c l (i + 1)) (by omega) X kf ko 16 0 (fun _ => (0, 0)) B (i + 3) s' m0 _ g (bex.refl _) S' k5 P' E' (fun k hk => absurd hk (by omega)) h70 hE' h16 (fun e he => absurd he (by simp [nvl])) F' od1 (by omega) rfl hx
    · rw [if_neg kR] at hX
      refine r_opP (p := p) H S k0 hP.1 (by omega) kR (fun e σ' he f => ?_) (fun o s1 ho' S1 D1 => ?_)
      · rw [xqi_i]
        exact ⟨fun _ => fa e σ' _ _ (hX.trans (eb_er he)) f, fun z => absurd rfl z⟩
      rw [eb_ok ho'] at hX
      obtain ⟨q1, q2, q3, q4, q5, q6, q7⟩ := pOp_ok H (j := i + 1) b0 ho'
      have D2 : oO p σ s1 := D1.2
      unfold w_VectorSolverModel_opening_346
      intro s11 e11
      rw [D2.1 50 29 (by omega) (by omega), hP.1, show (1 : Int32) = nI 1 from rfl, nI_add] at e11
      have o11 : oE [29] s1 s11 := by rw [e11]; exact oE.pi _ _ _ (by decide)
      have x29 : xi s11 50 29 = nI (p + 1) := by rw [e11, xi_pi, if_pos ⟨rfl, rfl⟩]
      clear e11
      have S11 : RS c l N B o.2.2.2 s11 := S1.e o11 (by decide)
      have F11 : RPF p h nb σ s11 := RPF.trans ⟨D2.S, fun a b q1 q2 q3 => D2.1 a b (by omega) (by omega), fun b q => D2.1 76 b (by omega) (by omega), fun a b q1 q2 q3 => D2.1 a b (by omega) (by omega)⟩ (o11.P (fun b hb => jR_rcl b (by revert b; decide)))
      refine r_next H (S11.n q6) (fun s' y f => ?_) (fun s12 S12 o12 => ?_)
      · rw [xqv_v]
        refine ⟨fun _ => ?_, fun z => absurd z f.X.1⟩
        rw [xqi_i]
        exact ⟨fun _ => fa _ s' _ _ (hX.trans (eb_er (pAr_bad y 40))) (RFl.pre F11.1 (bex.refl _) f), fun z => absurd rfl z⟩
      have F12 : RPF p h nb σ s12 := F11.trans o12.P10
      have t2 := (tK_32 (j := o.2.2.2 + 1) H).1
      have hi2 := S12.2.2.2.2.2.2.1
      have tk2 := S12.2.1.t (j := o.2.2.2 + 1) hi2
      have y29 : xi s12 50 29 = nI (p + 1) := (o12.at (by decide)).trans x29
      have y36 : xi s12 50 36 = nI h := by rw [o12.at (by decide), o11.at (by decide), D2.1 50 36 (by omega) (by omega)]; exact hP.2.1
      have y38 : xi s12 50 38 = nI nb := by rw [o12.at (by decide), o11.at (by decide), D2.1 50 38 (by omega) (by omega)]; exact hP.2.2
      have row : ∀ a, a ≠ 50 → xi s12 a p = xi s1 a p := fun a q => (o12.ne q).trans (o11.ne q)
      have A12 : ARG p h [] o.1 o.2.1 o.2.2.1 (tF c l i) s12 := ⟨(row 70 (by decide)).trans D1.1.1, (row 71 (by decide)).trans D1.1.2.1, (row 72 (by decide)).trans D1.1.2.2.1, (row 73 (by decide)).trans D1.1.2.2.2.1, (row 74 (by decide)).trans D1.1.2.2.2.2.1, (row 75 (by decide)).trans D1.1.2.2.2.2.2, fun k hk => absurd hk (by simp)⟩
      rw [xqv_v, S12.2.2.2.1, S12.2.2.2.2.2.1, nI_clamp (n := o.2.2.2 + 1) (by omega), tk2.1, show (2 : Int32) = nI (1 + 1) from rfl, rk_k _ t2 _ (by decide), y29, show (1 : Int32) = nI 1 from rfl, nI_sub (by omega), Nat.add_sub_cancel]
      refine ⟨fun z => absurd rfl z, fun _ => ⟨vp_in_nI (by omega) (by decide), fun z => ?_, fun z s14 e14 => ?_⟩⟩
      · rw [xqi_i]
        refine ⟨fun _ => ⟨1, ex142 S12.2.2.2.1 ?_ (by omega)⟩, fun y => absurd rfl y⟩
        exact r_args (op := o.1) (hi := o.2.1) (lo := o.2.2.1) (beg := tF c l i) H ih hLt hv hn (by omega) hh q1 q2 q3 q4 X kf ko 40 B (o.2.2.2 + 1) [] s12 m0 _ g (bex.refl _) S12 z ⟨y29, y36, y38⟩ A12 (hE.keep F12) (fun a ha => absurd ha (by simp)) F12 rfl (by omega) (by omega) hX
      · have o14 : oE [29] s12 s14 := by rw [e14]; exact oE.pi _ _ _ (by decide)
        have z29 : xi s14 50 29 = nI p := by rw [e14, xi_pi, if_pos ⟨rfl, rfl⟩]
        clear e14
        have S14 := S12.e o14 (by decide)
        rw [eb_ok (pAr_c z 40)] at hX
        have F14 : RPF p h nb σ s14 := F12.trans (o14.P (fun b hb => jR_rcl b (by revert b; decide)))
        rw [xqi_i]
        refine ⟨fun y => absurd y (by decide), fun _ => ⟨fun y => absurd S14.2.2.2.1 y, fun _ => ?_⟩⟩
        have a14 : ∀ a b, a ≠ 50 → xi s14 a b = xi s12 a b := fun a b q => o14.ne q
        refine r_apply (p := p) (h := h) (as := []) (op := o.1) (hi := o.2.1) (lo := o.2.2.1) (beg := tF c l i) H S14 ⟨⟨z29, by omega⟩, ⟨(o14.at (by decide)).trans y36, by show h + 0 ≤ 2600; omega, by decide⟩, (a14 75 p (by decide)).trans A12.2.2.2.2.2.1, (a14 72 p (by decide)).trans A12.2.2.1, (a14 71 p (by decide)).trans A12.2.1, (a14 73 p (by decide)).trans A12.2.2.2.1, (a14 74 p (by decide)).trans A12.2.2.2.2.1, fun k hk => absurd hk (by simp), S14.2.2.1, g, fun x hx => absurd hx (by simp)⟩ q1 q2 q3 q4 (fun e s' he f => ?_) (fun r' s4 hr' S4 h36 T4 => ?_)
        · rw [xqi_i]
          exact fa e s' _ _ (hX.trans (eb_er he)) (RFl.pre F14.1 (bex.refl _) f)
        · rw [xqi_i]
          rw [eb_ok hr'] at hX
          exact ⟨p + 2, ko (r'.1, r'.2, o.2.2.2 + 1) s4 m0 (p + 2) hX (by dsimp only; omega) (by omega) S4 ⟨(T4.1 50 29 (by omega) (by omega)).trans z29, h36, (T4.1 50 38 (by omega) (by omega)).trans ((o14.at (by decide)).trans y38)⟩ (F14.trans T4.P)⟩
theorem r_term (H : okN c l N) (g : gB B) (S : RS c l N B i σ) (ho : od c l i = 70001) (kf : ∀ e σ' t, pTm c l 59 [] 0 B i = .error e → RFl B e σ σ' → Q (.inl (some (.int t))) σ') (ko : ∀ r σ', pTm c l 59 [] 0 B i = .ok r → RS c l N r.2.1 r.2.2 σ' → oS σ σ' → Q (.inl (some (.int (nI r.1)))) σ') : wp_VectorSolverModel_term Q σ := by
  have hi := S.2.2.2.2.2.2.1
  unfold wp_VectorSolverModel_term
  intro s1 e1 s2 e2 s3 e3
  have o3 : oE [29, 36, 38] σ s3 := by rw [e3, e2, e1]; exact ((oE.pi _ _ _ (by decide)).trans (oE.pi _ _ _ (by decide))).trans (oE.pi _ _ _ (by decide))
  have P3 : RP 0 0 0 s3 := ⟨by rw [e3, xi_pi, if_neg (by omega), e2, xi_pi, if_neg (by omega), e1, xi_pi, if_pos ⟨rfl, rfl⟩]; rfl, by rw [e3, xi_pi, if_neg (by omega), e2, xi_pi, if_pos ⟨rfl, rfl⟩]; rfl, by rw [e3, xi_pi, if_pos ⟨rfl, rfl⟩]; rfl⟩
  clear e1 e2 e3
  refine ⟨N + 2, r_trm H 59 Q s3 B 0 0 0 i (fun _ => (0, 0, false)) (fun _ => 0) (N + 2) 0 g (S.e o3 (by decide)) P3 (fun b hb => absurd hb (by omega)) (fun e he => absurd he (by simp [vsl])) (by decide) (by decide) (by decide) (by omega) (by omega) (fun e σ' t he f => ?_) (fun r σ' m' m2 hr hm' hm2 S' P' F' => ?_)⟩
  · exact kf e σ' t he (RFl.e o3 (by decide) f)
  · obtain ⟨m3, rfl⟩ : ∃ m3, m2 = m3 + 1 := ⟨m2 - 1, by omega⟩
    have hr : pTm c l 59 [] 0 B i = .ok r := hr
    obtain ⟨q1, q2, q3, q4, q5, q6⟩ := pTm_ok H 59 [] _ _ i _ (by decide) g (fun e he => absurd he (by simp)) hi hr
    obtain ⟨m4, rfl⟩ : ∃ m4, m' = m4 + 1 := ⟨m' - 1, by omega⟩
    have fin : w_VectorSolverModel_term_19 Q (m4 + 1) 1 (nI r.1) σ' := by
      unfold w_VectorSolverModel_term_19
      exact ⟨fun z => absurd S'.2.2.2.1 z, fun _ => ⟨fun _ => ko r σ' hr S' ((o3.S (fun b hb => jR_rcl b (by revert b; decide))).trans F'.1), fun z => absurd z (by decide)⟩⟩
    unfold w_VectorSolverModel_term_142
    refine ⟨fun z => absurd S'.2.2.2.1 z, fun _ => ⟨fun z => absurd z (by decide), fun _ => ⟨fun z => absurd rfl z, fun _ => ⟨fun z => absurd P'.1 z, fun _ => ?_⟩⟩⟩⟩
    unfold w_VectorSolverModel_term_169
    refine ⟨fun _ => ?_, fun z => absurd z (by decide)⟩
    unfold w_VectorSolverModel_term_186 w_VectorSolverModel_term_187
    exact ⟨fun _ => ex142 S'.2.2.2.1 fin (by omega), fun z => absurd rfl z⟩
end RT2
