/-! THE CLASS READS: let, and any term -/
section CLET2
variable {c : Nat → Nat} {l N : Nat} {B : Bk} {top base nb i j : Nat} {σ σ' : xS} {Q : xO → xS → Prop} {E : Nat → Nat × Nat × Bool} {P : Nat → Nat × Nat}
def pLb (c : Nat → Nat) (l n : Nat) (vis : Vis) (nb : Nat) (q : Bk × Nat × Vis) : PE (Nat × Bk × Nat) := eb (pX c l q.2.1 1) fun _ => eb (pTm c l n (q.2.2 ++ vis) (nb + q.2.2.length) q.1 (q.2.1 + 1)) fun r => eb (pX c l (r.2.2 + 1) 1) fun _ => .ok (r.1, r.2.1, r.2.2 + 1)
/-- all words are bound: the body -/
theorem v_letB {n m : Nat} (H : okN c l N) (hT : vT c l N n) (S : CS c l N B top (nb + m) i σ) (g : gB B) (hL : LB c l N P nb E m σ) (hv : ∀ e ∈ vsl c l E nb, e.2 < bma B) (hw : ∀ e ∈ nvl c l P m, e.2 < bma B) (hn : nb + m ≤ 16) (hb : top ≤ 40 * (60 - n)) (h60 : n ≤ 60) (ho : tK c l i = 1 → 70060 ≤ od c l (i + 1) + n)
    (kf : ∀ e σ', pLb c l n (vsl c l E nb) nb (B, i, nvl c l P m) = .error e → FL B e σ σ' → Q (.inr 0) σ')
    (ko : ∀ r σ', pLb c l n (vsl c l E nb) nb (B, i, nvl c l P m) = .ok r → CS c l N r.2.1 top nb r.2.2 σ' → FR top nb σ σ' → Q (.inl (some (.int (nI r.1)))) σ') : w_Reader_let_51 (wp_Reader_term (n + 1)) Q (nI nb) σ := by
  have t3 : tK c l i < 256 := (tok_ok (c := c) (j := i) H.2.1).2.2.1
  have ca := S.2.2.2.2.2.2.2.2
  unfold w_Reader_let_51
  rw [ca.1, show (1 : Int32) = nI 1 from rfl, nI_eq (by omega) (by decide)]
  refine ⟨fun k1 => ?_, fun k1 => ?_⟩
  rotate_left
  · refine v_failHere H S (fun σ' f => ?_)
    rw [xqi_e]
    exact kf _ σ' (eb_er (if_neg k1)) f
  have b1 := H.lt (i := i) S.2.2.2.2.2.2.2.1 (by omega)
  have u : pLb c l n (vsl c l E nb) nb (B, i, nvl c l P m) = eb (pTm c l n (nvl c l P m ++ vsl c l E nb) (nb + m) B (i + 1)) fun r => eb (pX c l (r.2.2 + 1) 1) fun _ => .ok (r.1, r.2.1, r.2.2 + 1) := by
    have hp : pX c l i 1 = .ok () := if_pos k1
    unfold pLb
    dsimp only
    rw [eb_ok hp, nvl_len]
  rw [u] at kf ko
  clear u
  have key := loop_i (σ := xS) (fun f q s => w_Reader_let_72 (wp_Reader_term (n + 1)) Q f (nI nb) (nI (nb + q)) s) (fun q s => (∀ k, k < q → xi s 29 (nb + k) = nI 1) ∧ (∀ a b, ¬ (a = 29 ∧ nb ≤ b) → xi s a b = xi σ a b) ∧ (∀ a b, xl s a b = xl σ a b) ∧ xb s = xb σ) m (fun f s hI => ?_) (fun f q s hq hI hs => ?_)
  · exact ⟨_, key (m + 1) 0 σ (by omega) (by omega) ⟨fun k h => absurd h (by omega), fun _ _ _ => rfl, fun _ _ => rfl, rfl⟩⟩
  · obtain ⟨i1, i2, i3, i4⟩ := hI
    unfold w_Reader_let_72
    rw [i2 24 9 (by omega), S.2.2.2.2.2.1]
    refine ⟨fun _ => ?_, fun z => absurd (Int32.le_refl _) z⟩
    have Ss : CS c l N B top (nb + m) i s := S.rd (fun a b q => i2 a b (by omega)) i3 i4 ((i2 24 4 (by omega)).trans S.2.2.2.2.1) ((i2 24 9 (by omega)).trans S.2.2.2.2.2.1)
    have Fs : FR top nb σ s := ⟨⟨fun a b q => i2 a b (fun z => q (.inr (.inr (by omega)))), fun a b _ _ => i3 a b⟩, fun k hk => i2 25 k (by omega), fun a b q1 q2 q3 => i2 a b (by omega), i4⟩
    have Bs : BD c l N (EE P nb E true) (nb + m) s := fun b hb => by
      have e0 := hL.1 b hb
      by_cases q : b < nb
      · have e1 : EE P nb E false b = E b := if_pos q
        have e2 : EE P nb E true b = E b := if_pos q
        rw [e1] at e0
        rw [e2, i2 26 b (by omega), i2 27 b (by omega), i2 28 b (by omega), i2 29 b (by omega)]
        exact e0
      · obtain ⟨d, rfl⟩ : ∃ d, b = nb + d := ⟨b - nb, by omega⟩
        have e1 : EE P nb E false (nb + d) = ((P d).1, (P d).2, false) := by
          show (if nb + d < nb then _ else _) = _
          rw [if_neg q, Nat.add_sub_cancel_left]
        have e2 : EE P nb E true (nb + d) = ((P d).1, (P d).2, true) := by
          show (if nb + d < nb then _ else _) = _
          rw [if_neg q, Nat.add_sub_cancel_left]
        rw [e1] at e0
        rw [e2, i2 26 _ (by omega), i2 27 _ (by omega), i2 28 _ (by omega), i1 d (by omega)]
        exact ⟨e0.1, e0.2.1, e0.2.2.1, e0.2.2.2.1, rfl, fun _ => hL.2 d (by omega)⟩
    refine v_next H (Ss.n b1) (fun s1 S1 o1 => ?_)
    rw [xqv_v]
    have F1 : ∀ t n, FR t n s s1 := fun t n => o1.F (by decide) (by decide)
    have ev : vsl c l (EE P nb E true) (nb + m) = nvl c l P m ++ vsl c l E nb := vsl_t m
    have hw' : ∀ e ∈ nvl c l P m ++ vsl c l E nb, e.2 < bma B := fun e he => by
      rcases List.mem_append.mp he with z | z
      · exact hw e z
      · exact hv e z
    refine hT _ _ B top (nb + m) (i + 1) (EE P nb E true) g S1 (Bs.keep (F1 top _)) (by rw [ev]; exact hw') hn hb h60 (ho k1) (fun e σ' h f => ?_) (fun r s2 h S2 F2 => ?_)
    · rw [xqi_e]
      rw [ev] at h
      exact kf e σ' (eb_er h) (FL.pre (Fs.trans (F1 _ _)) (bex.refl _) f)
    rw [xqi_i]
    rw [ev] at h
    rw [eb_ok h] at kf ko
    obtain ⟨p1, p2, p3, p4, p5, p6⟩ := pTm_ok H n _ _ _ (i + 1) _ hn g hw' b1 h
    intro s10 e10
    have ch : ∀ a b, ¬ (a = 24 ∧ b = 9) → xi s10 a b = xi s2 a b := fun a b q => by rw [e10, xi_pi, if_neg q]
    have S10 : CS c l N r.2.1 top nb r.2.2 s10 := S2.rd (fun a b q => ch a b (by omega)) (fun a b => by rw [e10, xl_pi]) (by rw [e10]; rfl) ((ch 24 4 (by omega)).trans S2.2.2.2.2.1) (by rw [e10, xi_pi, if_pos ⟨rfl, rfl⟩])
    have F10 : FR top nb s2 s10 := ⟨⟨fun a b q => ch a b (fun z => q (.inr (.inr (by omega)))), fun a b _ _ => by rw [e10, xl_pi]⟩, fun k hk => ch 25 k (by omega), fun a b q1 q2 q3 => ch a b (by omega), by rw [e10]; rfl⟩
    have Fa : FR top nb σ s10 := (Fs.trans (F1 _ _)).trans ((F2.le (Nat.le_refl _) (by omega)).trans F10)
    refine v_expect (k0 := 1) H (by decide) (S10.n p5) (fun e σ' h' f => ?_) (fun s15 h15 S15 o15 => ?_)
    · rw [xqv_e]
      exact kf e σ' (eb_er h') (FL.pre Fa p2.1 f)
    · rw [xqv_v]
      exact ko (r.1, r.2.1, r.2.2 + 1) s15 (eb_ok h15) S15 (Fa.trans (o15.F (by decide) (by decide)))
  · obtain ⟨i1, i2, i3, i4⟩ := hI
    unfold w_Reader_let_72
    rw [i2 24 9 (by omega), S.2.2.2.2.2.1, nI_leI (by omega) (by omega), nI_clamp (n := nb + q) (by omega)]
    refine ⟨fun z => absurd z (by omega), fun _ => ⟨vp_in_nI (by omega) (by decide), fun s13 e13 x14 e14 => ?_⟩⟩
    rw [show (1 : Int32) = nI 1 from rfl, nI_add] at e14
    subst e14
    have n1 : vp_nar .boolean (1 : Int32) = nI 1 := by decide
    rw [n1] at e13
    refine hs s13 ⟨fun k hk => ?_, fun a b q' => ?_, fun a b => ?_, ?_⟩
    · rw [e13, xi_pi]
      by_cases e : k = q
      · rw [if_pos ⟨rfl, by omega⟩]
      · rw [if_neg (by omega)]; exact i1 k (by omega)
    · rw [e13, xi_pi, if_neg (by omega)]; exact i2 a b q'
    · rw [e13, xl_pi]; exact i3 a b
    · rw [e13]; exact i4
theorem v_let {n : Nat} (H : okN c l N) (hT : vT c l N n) (S : CS c l N B top nb (i + 1) σ) (hiN : i + 1 < N) (kR : tR c l (i + 1) = some 9) (g : gB B) (hE : BD c l N E nb σ) (hv : ∀ e ∈ vsl c l E nb, e.2 < bma B) (hn : nb ≤ 16) (hb : top ≤ 40 * (60 - n)) (h60 : n ≤ 60) (ho : 70060 ≤ od c l (i + 1) + n)
    (kf : ∀ e σ', pLt c l (pTm c l n) (vsl c l E nb) nb B i = .error e → FL B e σ σ' → Q (.inr 0) σ')
    (ko : ∀ r σ', pLt c l (pTm c l n) (vsl c l E nb) nb B i = .ok r → CS c l N r.2.1 top nb r.2.2 σ' → FR top nb σ σ' → Q (.inl (some (.int (nI r.1)))) σ') : wp_Reader_let (wp_Reader_term (n + 1)) Q σ := by
  obtain ⟨X, hX⟩ : ∃ X, X = pLt c l (pTm c l n) (vsl c l E nb) nb B i := ⟨_, rfl⟩
  rw [← hX] at kf ko
  unfold pLt at hX
  have k5 := (tok_R kR).1
  have tl := (tok_2 (c := c) (l := l) (i := i + 1) (by omega) (by omega)).2.1
  rw [show i + 1 + 1 = i + 2 by omega] at tl
  unfold wp_Reader_let
  rw [S.2.2.2.2.2.1]
  intro x1 e1
  subst e1
  refine v_expect (k0 := 0) H (by decide) (S.n hiN) (fun e σ' h f => ?_) (fun s2 h2 S2 o2 => ?_)
  · rw [xqv_e]
    exact kf e σ' (hX.trans (eb_er h)) f
  rw [xqv_v]
  have h2 : pX c l (i + 2) 0 = .ok () := h2
  have S2 : CS c l N B top nb (i + 2) s2 := S2
  rw [eb_ok h2] at hX
  have k2 := pX_i h2
  have b2 := H.lt (i := i + 2) hiN (by omega)
  have t2 := (tok_0 k2).1
  have F2 : ∀ t n, FR t n σ s2 := fun t n => o2.F (by decide) (by decide)
  refine v_expect (k0 := 0) H (by decide) (S2.n b2) (fun e σ' h f => ?_) (fun s3 h3 S3 o3 => ?_)
  · rw [xqv_e]
    exact kf e σ' (hX.trans (eb_er h)) (FL.pre (F2 0 0) (bex.refl _) f)
  rw [xqv_v]
  have F3 : ∀ t n, FR t n σ s3 := fun t n => (F2 t n).trans (o3.F (by decide) (by decide))
  rw [show i + 2 + 1 = i + 3 by omega] at h3 S3 t2
  rw [eb_ok h3] at hX
  have k3 := pX_i h3
  have b3 := H.lt (i := i + 3) b2 (by omega)
  have key : ∀ m cnt P B1 i1 σ1, gB B1 → bex B B1 → CS c l N B1 top (nb + cnt) i1 σ1 → i1 < N → tK c l i1 = 0 → LB c l N P nb E cnt σ1 → nb + cnt ≤ 16 → cnt + m = 17 → FR top nb σ σ1 → (∀ e ∈ nvl c l P cnt, e.2 < bma B1) → od c l i1 = od c l (i + 3) → X = eb (pBs c l (pTm c l n) (vsl c l E nb) nb m B1 i1 (nvl c l P cnt)) (pLb c l n (vsl c l E nb) nb) → w_Reader_let_17 (wp_Reader_term (n + 1)) Q (m + 1) (nI nb) (nI cnt) σ1 := by
    intro m
    induction m with
    | zero => intro cnt P B1 i1 σ1 _ _ _ _ _ _ h16 h17; omega
    | succ m ih =>
      intro cnt P B1 i1 σ1 g1 x1 S1 hi1 k1 L1 h16 h17 F1 hw od1 hx
      have ca := S1.2.2.2.2.2.2.2.2
      have t1 := (tok_0 k1).1
      unfold w_Reader_let_17
      rw [show (16 : Int32) = nI 16 from rfl, nI_ltI (by decide) (by omega), ca.1, k1]
      refine ⟨fun z => absurd z (by omega), fun _ => ⟨fun z => absurd rfl z, fun _ => ?_⟩⟩
      have ux : ∀ new, new.length = cnt → pBs c l (pTm c l n) (vsl c l E nb) nb (m + 1) B1 i1 new = eb (pX c l (i1 + 1) 5) fun _ => if tR c l (i1 + 1) ≠ none ∨ vlk new (tW c l (i1 + 1)) ≠ none then .error (6, tF c l (i1 + 1)) else if 16 ≤ nb + cnt then .error (11, tF c l (i1 + 1)) else eb (pTm c l n (vsl c l E nb) (nb + cnt + 1) B1 (i1 + 2)) fun r => eb (pX c l (r.2.2 + 1) 1) fun _ => if tK c l (r.2.2 + 2) = 0 then pBs c l (pTm c l n) (vsl c l E nb) nb m r.2.1 (r.2.2 + 2) ((tW c l (i1 + 1), r.1) :: new) else .ok (r.2.1, r.2.2 + 2, (tW c l (i1 + 1), r.1) :: new) := fun new h => by rw [← h]; rfl
      refine v_bind (m := cnt) H hT S1 hi1 k1 g1 L1 (fun e he => Nat.lt_of_lt_of_le (hv e he) x1.ma) h16 hb h60 (by omega) _ _ (ux _ (nvl_len cnt)) (fun e σ' h f => ?_) (fun r P' s4 hK hp hr k4 hP hPm hlt S4 L4 F4 => ?_)
      · rw [xqv_e]
        exact kf e σ' (hx.trans (eb_er h)) (FL.pre F1 x1 f)
      rw [xqv_v]
      have k5 : tK c l (i1 + 1) = 5 := by
        have e0 := (L4.1 (nb + cnt) (by omega)).1
        have e1 : EE P' nb E false (nb + cnt) = ((P' cnt).1, (P' cnt).2, false) := by
          show (if nb + cnt < nb then _ else _) = _
          rw [if_neg (by omega), Nat.add_sub_cancel_left]
        rw [e1, hPm] at e0
        exact e0
      have t5 := (tok_2 (c := c) (l := l) (i := i1 + 1) (by omega) (by omega)).2.1
      rw [show i1 + 1 + 1 = i1 + 2 by omega] at t5
      have b5 := H.lt (i := i1 + 1) hi1 (by omega)
      obtain ⟨p1, p2, p3, p4, p5, p6⟩ := pTm_ok H n _ _ _ (i1 + 2) _ (by omega) g1 (fun e he => Nat.lt_of_lt_of_le (hv e he) x1.ma) b5 hp
      have t6 := H.t1 (i := r.2.2 + 1) p5 k4
      rw [show r.2.2 + 1 + 1 = r.2.2 + 2 by omega] at t6
      have en : nvl c l P' (cnt + 1) = (tW c l (i1 + 1), r.1) :: nvl c l P cnt := by
        show (tW c l (P' cnt).1, (P' cnt).2) :: nvl c l P' cnt = _
        rw [hPm, nvl_cg cnt hP]
      have hw' : ∀ e ∈ nvl c l P' (cnt + 1), e.2 < bma r.2.1 := fun e he => by
        rw [en] at he
        rcases List.mem_cons.mp he with z | z
        · rw [z]; exact p3
        · exact Nat.lt_of_lt_of_le (hw e z) p2.ma
      have od2 : od c l (r.2.2 + 2) = od c l (i + 3) := by omega
      have xr : bex B r.2.1 := x1.trans p2.1
      have hv' : ∀ e ∈ vsl c l E nb, e.2 < bma r.2.1 := fun e he => Nat.lt_of_lt_of_le (hv e he) xr.ma
      rw [← en] at hK
      refine v_next H (S4.n hr) (fun s5 S5 o5 => ?_)
      rw [xqv_v]
      intro x21 e21
      rw [show (1 : Int32) = nI 1 from rfl, nI_add] at e21
      subst e21
      have F5 : ∀ t n, FR t n s4 s5 := fun t n => o5.F (by decide) (by decide)
      have S5 : CS c l N r.2.1 top (nb + (cnt + 1)) (r.2.2 + 2) s5 := S5
      have L5 : LB c l N P' nb E (cnt + 1) s5 := L4.keep (F5 top _)
      have Fa : FR top nb σ s5 := (F1.trans (F4.le (Nat.le_refl _) (by omega))).trans (F5 _ _)
      by_cases k0 : tK c l (r.2.2 + 2) = 0
      · rw [if_pos k0] at hK
        refine ih (cnt + 1) P' r.2.1 (r.2.2 + 2) s5 p1 xr S5 (H.lt (i := r.2.2 + 2) hr (by omega)) k0 L5 (by omega) (by omega) Fa hw' od2 (hx.trans ?_)
        rw [hK]
      · rw [if_neg k0] at hK
        have hx := hx.trans (eb_ok hK)
        have ca5 := S5.2.2.2.2.2.2.2.2
        have t3 : tK c l (r.2.2 + 2) < 256 := (tok_ok (c := c) (j := r.2.2 + 2) H.2.1).2.2.1
        have b51 : w_Reader_let_51 (wp_Reader_term (n + 1)) Q (nI nb) s5 := by
          refine v_letB (m := cnt + 1) H hT S5 p1 L5 hv' hw' (by omega) hb h60 (fun k1 => ?_) (fun e σ' h f => ?_) (fun r' σ' h S' F' => ?_)
          · have t7 := H.t1 (i := r.2.2 + 2) hr k1
            omega
          · exact kf e σ' (hx.trans h) (FL.pre Fa xr f)
          · exact ko r' σ' (hx.trans h) S' (Fa.trans F')
        unfold w_Reader_let_17
        rw [ca5.1, show (0 : Int32) = nI 0 from rfl, nI_eq (by omega) (by decide)]
        exact ⟨fun _ => b51, fun _ => ⟨fun _ => b51, fun z => absurd z k0⟩⟩
  refine ⟨_, key 17 0 (fun _ => (0, 0)) B (i + 3) s3 g (bex.refl _) S3 b3 k3 ⟨?_, fun k hk => absurd hk (by omega)⟩ hn rfl (F3 _ _) (fun e he => absurd he (by simp [nvl])) rfl hX⟩
  intro b hb
  have e1 : EE (fun _ => (0, 0)) nb E false b = E b := if_pos hb
  rw [e1]
  exact (hE.keep (F3 top nb)) b hb
/-- any term -/
theorem v_trm (H : okN c l N) : ∀ n, vT c l N n := by
  intro n
  induction n with
  | zero =>
    intro Q σ B top nb i E g S hE hv hn hb h60 ho kf ko
    have t0 : tK c l i ≠ 0 := fun h => by
      have := (tok_0 h).2.1
      omega
    have u : pTm c l 0 (vsl c l E nb) nb B i = pAt c l (vsl c l E nb) B i := if_neg t0
    rw [u] at kf ko
    exact v_atom H g S hE hn t0 kf ko
  | succ n ih =>
    intro Q σ B top nb i E g S hE hv hn hb h60 ho kf ko
    by_cases t0 : tK c l i ≠ 0
    · have u : pTm c l (n + 1) (vsl c l E nb) nb B i = pAt c l (vsl c l E nb) B i := if_neg t0
      rw [u] at kf ko
      exact v_atom H g S hE hn t0 kf ko
    have t0 : tK c l i = 0 := Decidable.of_not_not t0
    have u : pTm c l (n + 1) (vsl c l E nb) nb B i = pBr c l (pTm c l n) (vsl c l E nb) nb B i := if_pos t0
    rw [u] at kf ko
    clear u
    obtain ⟨X, hX⟩ : ∃ X, X = pBr c l (pTm c l n) (vsl c l E nb) nb B i := ⟨_, rfl⟩
    rw [← hX] at kf ko
    unfold pBr at hX
    have o0 := (tok_0 t0).1
    have b0 := H.lt (i := i) S.2.2.2.2.2.2.2.1 (by omega)
    have ca := S.2.2.2.2.2.2.2.2
    unfold wp_Reader_term
    rw [ca.1, t0]
    refine ⟨fun _ => ?_, fun z => absurd z (by decide), fun z => absurd z (by decide), fun z => absurd rfl z.1⟩
    unfold wp_Reader_bracketTerm
    rw [ca.2.1]
    intro x1 e1
    subst e1
    refine v_next H (S.n b0) (fun s1 S1 o1 => ?_)
    rw [xqv_v]
    have F1 : ∀ t n, FR t n σ s1 := fun t n => o1.F (by decide) (by decide)
    have E1 := hE.keep (F1 top nb)
    have ca1 := S1.2.2.2.2.2.2.2.2
    have t3 : tK c l (i + 1) < 256 := (tok_ok (c := c) (j := i + 1) H.2.1).2.2.1
    rw [ca1.2.2.2, show (9 : Int32) = nI 9 from rfl, supI_eq (fun m h => tR_lt h) (by decide), ca1.1, show (0 : Int32) = nI 0 from rfl, nI_eq (by omega) (by decide)]
    refine ⟨fun kR => ⟨fun k1 => ?_, fun k1 => ?_⟩, fun kR => ?_⟩
    · rw [if_neg kR] at hX
      refine v_opPlain H S1 k1 (fun e σ' h f => ?_) (fun o h ho' => ?_)
      · rw [xqi_e, xqi_e]
        exact kf e σ' (hX.trans (eb_er h)) (FL.pre (F1 0 0) (bex.refl _) f)
      · rw [xqi_i]
        rw [eb_ok h] at hX
        obtain ⟨q1, q2, q3, q4, q5, q6, q7⟩ := pOp_ok H (j := i + 1) b0 h
        dsimp only at q1 q2 q3 q4 q5 q6 q7 hX
        refine v_app (hi := 0) (lo := 0) H ih S1 q6 g E1 hv hn (by omega) (by omega) (by omega) q1 q2 (Nat.le_refl _) (by decide) (fun z => absurd z (by omega)) (fun e σ' h f => ?_) (fun r σ' h S' F' => ?_)
        · rw [xqi_e]
          exact kf e σ' (hX.trans h) (FL.pre (F1 0 0) (bex.refl _) f)
        · rw [xqi_i]
          exact ko r σ' (hX.trans h) S' ((F1 _ _).trans F')
    · rw [if_neg kR] at hX
      refine v_opIndexed H S1 k1 (fun e σ' h f => ?_) (fun o hi lo j s2 h S2 o2 h10 h11 => ?_)
      · rw [xqi_e, xqi_e]
        exact kf e σ' (hX.trans (eb_er h)) (FL.pre (F1 0 0) (bex.refl _) f)
      · rw [xqi_i]
        rw [eb_ok h] at hX
        obtain ⟨q1, q2, q3, q4, q5, q6, q7⟩ := pOp_ok H (j := i + 1) b0 h
        dsimp only at q1 q2 q3 q4 q5 q6 q7 hX
        have F2 : ∀ t n, FR t n σ s2 := fun t n => (F1 t n).trans o2.F
        refine v_app (hi := hi) (lo := lo) H ih S2 q6 g (hE.keep (F2 top nb)) hv hn (by omega) (by omega) (by omega) q1 q2 q3 q4 (fun _ => ⟨h10, h11⟩) (fun e σ' h f => ?_) (fun r σ' h S' F' => ?_)
        · rw [xqi_e]
          exact kf e σ' (hX.trans h) (FL.pre (F2 0 0) (bex.refl _) f)
        · rw [xqi_i]
          exact ko r σ' (hX.trans h) S' ((F2 _ _).trans F')
    · rw [if_pos kR] at hX
      have k5 := (tok_R kR).1
      refine v_let H ih S1 (H.lt (i := i + 1) b0 (by omega)) kR g E1 hv hn (by omega) (by omega) (by omega) (fun e σ' h f => ?_) (fun r σ' h S' F' => ?_)
      · rw [xqi_e, xqi_e]
        exact kf e σ' (hX.trans h) (FL.pre (F1 0 0) (bex.refl _) f)
      · rw [xqi_i, xqi_i]
        exact ko r σ' (hX.trans h) S' ((F1 _ _).trans F')
end CLET2
