/-! THE CLASS READS: let, and any term -/
section NV
variable (c : Nat → Nat) (l : Nat)
def nvl (P : Nat → Nat × Nat) : Nat → Vis
  | 0 => []
  | m + 1 => (tW c l (P m).1, (P m).2) :: nvl P m
end NV
def EE (P : Nat → Nat × Nat) (nb : Nat) (E : Nat → Nat × Nat × Bool) (s : Bool) : Nat → Nat × Nat × Bool := fun b => if b < nb then E b else ((P (b - nb)).1, (P (b - nb)).2, s)
section CLET
variable {c : Nat → Nat} {l N : Nat} {B : Bk} {top base nb i j : Nat} {σ σ' : xS} {Q : xO → xS → Prop} {E : Nat → Nat × Nat × Bool} {P : Nat → Nat × Nat}
theorem nvl_len (m : Nat) : (nvl c l P m).length = m := by
  induction m with
  | zero => rfl
  | succ m ih => show (nvl c l P m).length + 1 = _; rw [ih]
theorem nvl_cg {P' : Nat → Nat × Nat} : ∀ m, (∀ k, k < m → P' k = P k) → nvl c l P' m = nvl c l P m := by
  intro m
  induction m with
  | zero => intro _; rfl
  | succ m ih =>
    intro h
    show (tW c l (P' m).1, (P' m).2) :: nvl c l P' m = _
    rw [h m (by omega), ih (fun k hk => h k (by omega))]
    rfl
theorem vsl_cg {E' : Nat → Nat × Nat × Bool} : ∀ b, (∀ k, k < b → E' k = E k) → vsl c l E' b = vsl c l E b := by
  intro b
  induction b with
  | zero => intro _; rfl
  | succ b ih =>
    intro h
    show (if (E' b).2.2 = true then _ else _) = _
    rw [h b (by omega), ih (fun k hk => h k (by omega))]
    rfl
theorem vsl_s (b : Nat) : vsl c l E (b + 1) = if (E b).2.2 = true then (tW c l (E b).1, (E b).2.1) :: vsl c l E b else vsl c l E b := rfl
theorem vsl_f (m : Nat) : vsl c l (EE P nb E false) (nb + m) = vsl c l E nb := by
  induction m with
  | zero => exact vsl_cg nb (fun k hk => if_pos hk)
  | succ m ih =>
    have e : EE P nb E false (nb + m) = ((P (nb + m - nb)).1, (P (nb + m - nb)).2, false) := if_neg (by omega)
    rw [show nb + (m + 1) = nb + m + 1 by omega, vsl_s, e, if_neg (by intro h; cases h), ih]
theorem vsl_t (m : Nat) : vsl c l (EE P nb E true) (nb + m) = nvl c l P m ++ vsl c l E nb := by
  induction m with
  | zero => exact vsl_cg nb (fun k hk => if_pos hk)
  | succ m ih =>
    have e : EE P nb E true (nb + m) = ((P m).1, (P m).2, true) := by
      show (if nb + m < nb then _ else _) = _
      rw [if_neg (by omega), Nat.add_sub_cancel_left]
    rw [show nb + (m + 1) = nb + m + 1 by omega, vsl_s, e, if_pos rfl, ih]
    rfl
theorem v_bndS {m : Nat} (H : okN c l N) (S : CS c l N B top (nb + m) i σ) (h5 : tK c l i = 5) (hE : BD c l N (EE P nb E false) (nb + m) σ) (hn : nb + m ≤ 16) (k : Q (.inl (some (.int (bI (decide (vlk (nvl c l P m) (tW c l i) ≠ none)))))) σ) : wp_Reader_isBoundSince Q σ (nI nb) := by
  have vk : ∀ m, vlk (nvl c l P m) (tW c l i) ≠ none ↔ ∃ k, k < m ∧ tW c l (P k).1 = tW c l i := by
    intro m
    induction m with
    | zero => exact ⟨fun h => absurd rfl h, fun ⟨k, h, _⟩ => absurd h (by omega)⟩
    | succ m ih =>
      show vlk ((tW c l (P m).1, (P m).2) :: nvl c l P m) (tW c l i) ≠ none ↔ _
      rw [vlk]
      by_cases q : tW c l (P m).1 = tW c l i
      · rw [if_pos q]
        exact ⟨fun _ => ⟨m, by omega, q⟩, fun _ => by simp⟩
      · rw [if_neg q, ih]
        constructor
        · rintro ⟨k, k1, k2⟩; exact ⟨k, by omega, k2⟩
        · rintro ⟨k, k1, k2⟩
          by_cases e : k = m
          · rw [e] at k2; exact absurd k2 q
          · exact ⟨k, by omega, k2⟩
  unfold wp_Reader_isBoundSince
  have key := loop_i (σ := Unit) (fun n q _ => w_Reader_isBoundSince_2 Q n (nI (nb + q)) σ) (fun q _ => ∀ k, k < q → tW c l (P k).1 ≠ tW c l i) m (fun n _ hI => ?_) (fun n q _ hq hI hs => ?_)
  · exact ⟨_, key (m + 1) 0 () (by omega) (by omega) (fun k h => absurd h (by omega))⟩
  · unfold w_Reader_isBoundSince_2
    rw [S.2.2.2.2.2.1]
    refine ⟨fun _ => ?_, fun z => absurd (Int32.le_refl _) z⟩
    rw [decide_eq_false (fun h => by obtain ⟨k', k1, k2⟩ := (vk m).mp h; exact hI k' k1 k2)] at k
    exact k
  · obtain ⟨e1, e2, e3, e4, e5, e6⟩ := hE (nb + q) (by omega)
    have ee : EE P nb E false (nb + q) = ((P q).1, (P q).2, false) := by
      show (if nb + q < nb then _ else _) = _
      rw [if_neg (by omega), Nat.add_sub_cancel_left]
    rw [ee] at e1 e3 e4
    dsimp only at e1 e3 e4
    have t2 := tok_2 (c := c) (l := l) (i := (P q).1) (by omega) (by omega)
    unfold w_Reader_isBoundSince_2
    rw [S.2.2.2.2.2.1, nI_clamp (n := nb + q) (by omega), e3, e4, nI_leI (by omega) (by omega)]
    refine ⟨fun z => absurd z (by omega), fun _ => ⟨vp_in_nI (by omega) (by decide), vp_in_nI (by omega) (by decide), ?_⟩⟩
    refine v_isSame H S h5 (by omega) t2.2.2.2.2.1 ?_
    rw [xqi_i]
    refine ⟨fun y x3 e3' => ?_, fun y => ?_⟩
    · have y : ¬ tW c l (P q).1 = tW c l i := of_decide_eq_false ((bI_0 _).mp y)
      rw [show (1 : Int32) = nI 1 from rfl, nI_add] at e3'
      subst e3'
      refine hs () (fun k' hk' => ?_)
      by_cases e : k' = q
      · rw [e]; exact y
      · exact hI k' (by omega)
    · have y : tW c l (P q).1 = tW c l i := by
        apply Classical.byContradiction
        intro n
        exact y ((bI_0 _).mpr (decide_eq_false n))
      rw [decide_eq_true ((vk m).mpr ⟨q, hq, y⟩)] at k
      exact k
/-- the reader's bound words and what is yet to come -/
def LB (c : Nat → Nat) (l N : Nat) (P : Nat → Nat × Nat) (nb : Nat) (E : Nat → Nat × Nat × Bool) (m : Nat) (σ : xS) : Prop := BD c l N (EE P nb E false) (nb + m) σ ∧ ∀ k, k < m → xi σ 28 (nb + k) = nI (P k).2
theorem LB.keep {m : Nat} (h : LB c l N P nb E m σ) (f : FR top (nb + m) σ σ') : LB c l N P nb E m σ' := ⟨h.1.keep f, fun k hk => (f.2.2.1 28 _ (by decide) (by decide) (by omega)).trans (h.2 k hk)⟩
/-- one binding: at token i stands its begin bracket -/
theorem v_bind {n m : Nat} (H : okN c l N) (hT : vT c l N n) (S : CS c l N B top (nb + m) i σ) (hiN : i < N) (k0 : tK c l i = 0) (g : gB B) (hL : LB c l N P nb E m σ) (hv : ∀ e ∈ vsl c l E nb, e.2 < bma B) (hn : nb + m ≤ 16) (hb : top ≤ 40 * (60 - n)) (h60 : n ≤ 60) (ho : 70060 ≤ od c l (i + 1) + n)
    (X : PE (Bk × Nat × Vis)) (K : Nat × Bk × Nat → PE (Bk × Nat × Vis))
    (hX : X = eb (pX c l (i + 1) 5) fun _ => if tR c l (i + 1) ≠ none ∨ vlk (nvl c l P m) (tW c l (i + 1)) ≠ none then .error (6, tF c l (i + 1)) else if 16 ≤ nb + m then .error (11, tF c l (i + 1)) else eb (pTm c l n (vsl c l E nb) (nb + m + 1) B (i + 2)) fun r => eb (pX c l (r.2.2 + 1) 1) fun _ => K r)
    (kf : ∀ e σ', X = .error e → FL B e σ σ' → Q (.inr 0) σ')
    (ko : ∀ (r : Nat × Bk × Nat) (P' : Nat → Nat × Nat) σ', X = K r → pTm c l n (vsl c l E nb) (nb + m + 1) B (i + 2) = .ok r → r.2.2 + 1 < N → tK c l (r.2.2 + 1) = 1 → (∀ k, k < m → P' k = P k) → P' m = (i + 1, r.1) → nb + m < 16 → CS c l N r.2.1 top (nb + m + 1) (r.2.2 + 1) σ' → LB c l N P' nb E (m + 1) σ' → FR top (nb + m) σ σ' → Q (.inl none) σ') : wp_Reader_bind (wp_Reader_term (n + 1)) Q σ (nI nb) := by
  unfold wp_Reader_bind
  refine v_expect (k0 := 5) H (by decide) (S.n hiN) (fun e σ' h f => ?_) (fun σ1 h1 S1 o1 => ?_)
  · rw [xqv_e]
    exact kf e σ' (hX.trans (eb_er h)) f
  rw [xqv_v]
  rw [eb_ok h1] at hX
  have k5 := pX_i h1
  have b1 := H.lt (i := i + 1) hiN (by omega)
  have ca := S1.2.2.2.2.2.2.2.2
  have F1 : ∀ t n, FR t n σ σ1 := fun t n => o1.F (by decide) (by decide)
  have L1 := hL.keep (F1 top (nb + m))
  have t2 := tok_2 (c := c) (l := l) (i := i + 1) (by omega) (by omega)
  have w24 : (tR c l (i + 1) ≠ none ∨ vlk (nvl c l P m) (tW c l (i + 1)) ≠ none) → w_Reader_bind_24 (wp_Reader_term (n + 1)) Q σ1 := fun q => by
    unfold w_Reader_bind_24
    refine v_fail (ek := 6) (ep := tF c l (i + 1)) S1.2.2.1 S1.2.2.2.2.2.2.1 rfl ca.2.1 (fun σ' f => ?_)
    rw [xqi_e]
    exact kf _ σ' (hX.trans (if_pos q)) (FL.j o1 f)
  have w41 : ¬ (tR c l (i + 1) ≠ none ∨ vlk (nvl c l P m) (tW c l (i + 1)) ≠ none) → w_Reader_bind_41 (wp_Reader_term (n + 1)) Q σ1 := fun q => by
    rw [if_neg q] at hX
    unfold w_Reader_bind_41
    rw [S1.2.2.2.2.2.1]
    intro x5 e5
    subst e5
    rw [nI_clamp (n := nb + m) (by omega), show (16 : Int32) = nI 16 from rfl, nI_ltI (by omega) (by decide)]
    refine ⟨fun z => ⟨vp_in_nI z (by decide), fun s6 e6 => ⟨vp_in_nI z (by decide), fun s7 e7 => ⟨vp_in_nI z (by decide), fun s8 e8 s9 e9 => ?_⟩⟩⟩, fun z => ?_⟩
    rotate_left
    · refine v_fail (ek := 11) (ep := tF c l (i + 1)) S1.2.2.1 S1.2.2.2.2.2.2.1 rfl ca.2.1 (fun σ' f => ?_)
      rw [xqi_e]
      exact kf _ σ' (hX.trans (if_pos (by omega))) (FL.j o1 f)
    rw [if_neg (by omega)] at hX
    have n0 : vp_nar .boolean (0 : Int32) = nI 0 := by decide
    have y1 : xi s6 1 11 = nI (tE c l (i + 1)) := by rw [e6, xi_pi, if_neg (by omega)]; exact ca.2.2.1
    have y2 : xi s8 24 9 = nI (nb + m) := by rw [e8, xi_pi, if_neg (by omega), e7, xi_pi, if_neg (by omega), e6, xi_pi, if_neg (by omega)]; exact S1.2.2.2.2.2.1
    rw [ca.2.1] at e6
    rw [y1] at e7
    rw [n0] at e8
    rw [y2, show (1 : Int32) = nI 1 from rfl, nI_add] at e9
    have ch : ∀ a b, ¬ (a = 26 ∧ b = nb + m) → ¬ (a = 27 ∧ b = nb + m) → ¬ (a = 29 ∧ b = nb + m) → ¬ (a = 24 ∧ b = 9) → xi s9 a b = xi σ1 a b := fun a b q1 q2 q3 q4 => by rw [e9, xi_pi, if_neg q4, e8, xi_pi, if_neg q3, e7, xi_pi, if_neg q2, e6, xi_pi, if_neg q1]
    have chl : ∀ a b, xl s9 a b = xl σ1 a b := fun a b => by rw [e9, xl_pi, e8, xl_pi, e7, xl_pi, e6, xl_pi]
    have xb9 : xb s9 = xb σ1 := by rw [e9, e8, e7, e6]; rfl
    have z26 : xi s9 26 (nb + m) = nI (tF c l (i + 1)) := by rw [e9, xi_pi, if_neg (by omega), e8, xi_pi, if_neg (by omega), e7, xi_pi, if_neg (by omega), e6, xi_pi, if_pos ⟨rfl, rfl⟩]
    have z27 : xi s9 27 (nb + m) = nI (tE c l (i + 1)) := by rw [e9, xi_pi, if_neg (by omega), e8, xi_pi, if_neg (by omega), e7, xi_pi, if_pos ⟨rfl, rfl⟩]
    have z29 : xi s9 29 (nb + m) = nI 0 := by rw [e9, xi_pi, if_neg (by omega), e8, xi_pi, if_pos ⟨rfl, rfl⟩]
    have S9 : CS c l N B top (nb + m + 1) (i + 1) s9 := S1.rd (fun a b q => ch a b (by omega) (by omega) (by omega) (by omega)) chl xb9 ((ch 24 4 (by omega) (by omega) (by omega) (by omega)).trans S1.2.2.2.2.1) (by rw [e9, xi_pi, if_pos ⟨rfl, rfl⟩])
    have F9 : FR top (nb + m) σ1 s9 := ⟨⟨fun a b q => ch a b (fun z => q (.inr (.inr (by omega)))) (fun z => q (.inr (.inr (by omega)))) (fun z => q (.inr (.inr (by omega)))) (fun z => q (.inr (.inr (by omega)))), fun a b _ _ => chl a b⟩, fun k hk => ch 25 k (by omega) (by omega) (by omega) (by omega), fun a b q1 q2 q3 => ch a b (by omega) (by omega) (by omega) (by omega), xb9⟩
    -- the new word, its term unknown
    have mkB : ∀ (t : Nat) (s : xS), LB c l N P nb E m s → xi s 26 (nb + m) = nI (tF c l (i + 1)) → xi s 27 (nb + m) = nI (tE c l (i + 1)) → xi s 29 (nb + m) = nI 0 → BD c l N (EE (fun k => if k = m then (i + 1, t) else P k) nb E false) (nb + m + 1) s := fun t s hLs h26 h27 h29 b hb => by
      by_cases q : b = nb + m
      · have e : EE (fun k => if k = m then (i + 1, t) else P k) nb E false b = (i + 1, t, false) := by
          show (if b < nb then _ else _) = _
          rw [if_neg (by omega), show b - nb = m by omega]
          dsimp only
          rw [if_pos rfl]
        rw [e, q]
        exact ⟨k5, b1, h26, h27, h29, fun x => (by cases x)⟩
      · have e : EE (fun k => if k = m then (i + 1, t) else P k) nb E false b = EE P nb E false b := by
          show (if b < nb then _ else _) = (if b < nb then _ else _)
          by_cases y : b < nb
          · rw [if_pos y, if_pos y]
          · rw [if_neg y, if_neg y]
            dsimp only
            rw [if_neg (by omega)]
        rw [e]
        exact hLs.1 b (by omega)
    have L9 := L1.keep F9
    refine v_next H (S9.n b1) (fun s10 S10 o10 => ?_)
    rw [xqv_v]
    have F10 : ∀ t n, FR t n s9 s10 := fun t n => o10.F (by decide) (by decide)
    have B10 := (mkB 0 s9 L9 z26 z27 z29).keep (F10 top (nb + m + 1))
    have ev : vsl c l (EE (fun k => if k = m then (i + 1, 0) else P k) nb E false) (nb + m + 1) = vsl c l E nb := vsl_f (m + 1)
    have od2 : 70060 ≤ od c l (i + 2) + n := by rw [show od c l (i + 2) = od c l (i + 1) from t2.2.1]; exact ho
    refine hT _ _ B top (nb + m + 1) (i + 2) _ g S10 B10 (by rw [ev]; exact hv) (by omega) hb h60 od2 (fun e σ' h f => ?_) (fun r σ2 h S2 F2 => ?_)
    · rw [xqi_e]
      rw [ev] at h
      exact kf e σ' (hX.trans (eb_er h)) (FL.j o1 (FL.pre (F9.trans (F10 _ _)) (bex.refl _) f))
    rw [xqi_i]
    rw [ev] at h
    rw [eb_ok h] at hX
    obtain ⟨p1, p2, p3, p4, p5, p6⟩ := pTm_ok H n _ _ _ (i + 2) _ (by omega) g hv b1 h
    refine ⟨vp_in_nI z (by decide), fun s14 e14 => ?_⟩
    have ch14 : ∀ a b, ¬ (a = 28 ∧ b = nb + m) → xi s14 a b = xi σ2 a b := fun a b q => by rw [e14, xi_pi, if_neg q]
    have S14 : CS c l N r.2.1 top (nb + m + 1) r.2.2 s14 := S2.rd (fun a b q => ch14 a b (by omega)) (fun a b => by rw [e14, xl_pi]) (by rw [e14]; rfl) ((ch14 24 4 (by omega)).trans S2.2.2.2.2.1) ((ch14 24 9 (by omega)).trans S2.2.2.2.2.2.1)
    have F14 : FR top (nb + m) σ2 s14 := ⟨⟨fun a b q => ch14 a b (fun z => q (.inr (.inr (by omega)))), fun a b _ _ => by rw [e14, xl_pi]⟩, fun k hk => ch14 25 k (by omega), fun a b q1 q2 q3 => ch14 a b (by omega), by rw [e14]; rfl⟩
    have Fall : FR top (nb + m) σ s14 := (F1 _ _).trans (F9.trans ((F10 _ _).trans ((F2.le (Nat.le_refl _) (by omega)).trans F14)))
    have F2' : FR top (nb + m + 1) s9 σ2 := (F10 _ _).trans F2
    have L14 : LB c l N (fun k => if k = m then (i + 1, r.1) else P k) nb E (m + 1) s14 := by
      have L2 := L9.keep (F2'.le (Nat.le_refl _) (by omega) : FR top (nb + m) s9 σ2)
      have L3 := L2.keep F14
      refine ⟨?_, fun k hk => ?_⟩
      · refine mkB r.1 s14 L3 ?_ ?_ ?_
        · rw [ch14 26 _ (by omega), F2'.2.2.1 26 _ (by decide) (by decide) (by omega)]; exact z26
        · rw [ch14 27 _ (by omega), F2'.2.2.1 27 _ (by decide) (by decide) (by omega)]; exact z27
        · rw [ch14 29 _ (by omega), F2'.2.2.1 29 _ (by decide) (by decide) (by omega)]; exact z29
      · by_cases q : k = m
        · rw [q, e14, xi_pi, if_pos ⟨rfl, rfl⟩]
          dsimp only
          rw [if_pos rfl]
        · dsimp only
          rw [if_neg q]
          exact L3.2 k (by omega)
    refine v_expect (k0 := 1) H (by decide) (S14.n p5) (fun e σ' h' f => ?_) (fun s15 h15 S15 o15 => ?_)
    · rw [xqv_e]
      exact kf e σ' (hX.trans (eb_er h')) (FL.pre Fall p2.1 f)
    · rw [xqv_v]
      have k1 := pX_i h15
      have F15 : ∀ t n, FR t n s14 s15 := fun t n => o15.F (by decide) (by decide)
      exact ko r (fun k => if k = m then (i + 1, r.1) else P k) s15 (hX.trans (eb_ok h15)) h (H.lt (i := r.2.2 + 1) p5 (by omega)) k1 (fun k hk => if_neg (by omega)) (if_pos rfl) z S15 (L14.keep (F15 top _)) (Fall.trans (F15 _ _))
  rw [ca.2.2.2]
  cases er : tR c l (i + 1) with
  | some x =>
    have xl' := tR_lt er
    have ne : ¬ supI (some x) = -1 := by
      have : ∀ n, n < 47 → ¬ nI n = (-1 : Int32) := by decide +kernel
      exact this x xl'
    exact ⟨fun _ => w24 (.inl (by rw [er]; simp)), fun z => absurd z ne⟩
  | none =>
    refine ⟨fun z => absurd rfl z, fun _ => ?_⟩
    refine v_bndS (m := m) (P := P) H S1 k5 L1.1 hn ?_
    rw [xqi_i]
    refine ⟨fun z => w41 ?_, fun z => w24 (.inr ?_)⟩
    · have z := of_decide_eq_false ((bI_0 _).mp z)
      rw [er]
      intro q
      rcases q with q | q
      · exact q rfl
      · exact z q
    · apply Classical.byContradiction
      intro q
      exact z ((bI_0 _).mpr (decide_eq_false q))
end CLET
