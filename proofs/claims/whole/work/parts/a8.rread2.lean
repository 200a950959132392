/-! THE REFERENCE READS: the whole text -/
def oW (σ σ' : xS) : Prop := (∀ a b, ¬ rcl a b → ¬ (a = 50 ∧ (b = 1 ∨ b = 3)) → ¬ (52 ≤ a ∧ a ≤ 55) → xi σ' a b = xi σ a b) ∧ (∀ a b, a ≠ 64 → xl σ' a b = xl σ a b) ∧ xb σ' = xb σ
section RRD
variable {c : Nat → Nat} {l N : Nat} {B : Bk} {σ σ' : xS} {Q : xO → xS → Prop}
theorem oS.W (h : oS σ σ') : oW σ σ' := ⟨fun a b q _ _ => h.1 a b q, h.2.1, h.2.2⟩
theorem oW.trans {σ2 : xS} (h : oW σ σ') (h2 : oW σ' σ2) : oW σ σ2 := ⟨fun a b q r s => (h2.1 a b q r s).trans (h.1 a b q r s), fun a b q => (h2.2.1 a b q).trans (h.2.1 a b q), h2.2.2.trans h.2.2⟩
theorem r_read (T : RTB σ c l) (R : RR B σ) (g : gB B)
    (kf : ∀ e σ', pAll c l (l + 2) B 0 0 = .error e → oW σ σ' → RR B σ' → xi σ' 50 1 = nI 0 → xi σ' 50 3 = nI 0 → xi σ' 50 4 = nI e.1 → xi σ' 50 5 = nI e.2 → Q (.inl (some (.int (-1)))) σ')
    (ko : ∀ r σ', pAll c l (l + 2) B 0 0 = .ok r → oW σ σ' → RR r.1 σ' → xi σ' 50 1 = nI 0 → xi σ' 50 3 = nI 0 → xi σ' 50 4 = nI 0 → xi σ' 50 5 = -1 → Q (.inl (some (.int (nI r.2)))) σ') : wp_VectorSolverModel_read Q σ := by
  obtain ⟨N, hN, hN1, hN2⟩ := tok_end c l
  have l1 := T.2.1
  have H : okN c l N := ⟨by omega, l1, fun k hk => (T.2.2 k hk).1, hN1, hN2⟩
  obtain ⟨X, hX⟩ : ∃ X, X = pAll c l (l + 2) B 0 0 := ⟨_, rfl⟩
  rw [← hX] at kf ko
  unfold wp_VectorSolverModel_read
  intro s1 e1 x2 e2 x3 e3 x4 e4 x5 e5 x6 e6 x7 e7 x8 e8 s9 e9 s10 e10
  have o1 : oE [1] σ s1 := by rw [e1]; exact oE.pi _ _ _ (by decide)
  have o10 : oE [4, 5] s1 s10 := by rw [e10, e9]; exact (oE.pi _ _ _ (by decide)).trans (oE.pi _ _ _ (by decide))
  have R1 := R.e o1 (by decide)
  rw [R1.1.1] at e2
  rw [R1.1.2.1] at e3
  rw [R1.1.2.2.1] at e4
  rw [R1.1.2.2.2.1] at e5
  rw [R1.1.2.2.2.2.1] at e6
  rw [R1.1.2.2.2.2.2.2] at e7
  rw [R1.1.2.2.2.2.2.1] at e8
  subst e2 e3 e4 e5 e6 e7 e8
  have x1 : xi s10 50 1 = nI 0 := by rw [o10.at (by decide), e1, xi_pi, if_pos ⟨rfl, rfl⟩]; rfl
  have x4 : xi s10 50 4 = nI 0 := by rw [e10, xi_pi, if_neg (by decide), e9, xi_pi, if_pos ⟨rfl, rfl⟩]; rfl
  have x5 : xi s10 50 5 = -1 := by rw [e10, xi_pi, if_pos ⟨rfl, rfl⟩]
  have R10 := R1.e o10 (by decide)
  have T10 := (T.e o1 (by decide)).e o10 (by decide)
  have W10 : oW σ s10 := ⟨fun a b q r s => (o10.1 a b (fun z => q (by have := z.2; simp only [List.mem_cons, List.not_mem_nil, or_false] at this; unfold rcl; omega))).trans (o1.1 a b (fun z => r ⟨z.1, .inl (List.mem_singleton.mp z.2)⟩)), fun a b _ => (o10.2.1 a b).trans (o1.2.1 a b), o10.2.2.trans o1.2.2⟩
  clear e1 e9 e10
  refine r_split T10 hN hN1 hN2 (fun s11 oq P11 => ?_)
  rw [xqv_v]
  intro s13 e13
  have q11 : ∀ a b, ¬ (52 ≤ a ∧ a ≤ 55) → xi s11 a b = xi s10 a b := oq.1
  have R11 : RR B s11 := R10.k (fun j _ => q11 50 j (by omega)) (fun k j hk => q11 k j (by omega)) (fun j => oq.2.1 64 j)
  have T11 : RTB s11 c l := T10.oQ oq
  have o13 : oE [10] s11 s13 := by rw [e13]; exact oE.pi _ _ _ (by decide)
  have S13 : RS0 c l N B 0 s13 := ⟨T11.e o13 (by decide), P11.e o13, R11.e o13 (by decide), by rw [o13.at (by decide), q11 50 4 (by omega)]; exact x4, by rw [o13.at (by decide), q11 50 5 (by omega)]; exact x5, by rw [e13, xi_pi, if_pos ⟨rfl, rfl⟩]; rfl, Nat.zero_le _⟩
  have W13 : oW σ s13 := W10.trans ⟨fun a b q r s => (o13.1 a b (fun z => q (by have := List.mem_singleton.mp z.2; unfold rcl; omega))).trans (q11 a b s), fun a b _ => (o13.2.1 a b).trans (oq.2.1 a b), o13.2.2.trans oq.2.2⟩
  have z1 : xi s13 50 1 = nI 0 := by rw [o13.at (by decide), q11 50 1 (by omega)]; exact x1
  clear e13
  -- the end
  have f103 : ∀ e s n, X = .error e → RFl B e s13 s → w_VectorSolverModel_read_103 Q (nI (bma B)) (nI (bfi B (bma B))) (nI (bna B)) (nI (bas B)) (nI (bth B)) (nI (bsz B)) (nI (bwe B)) n s := fun e s n hx f => by
    obtain ⟨f1, ⟨B', f2, f3⟩, f4, f5, f6, f7, f8⟩ := f
    unfold w_VectorSolverModel_read_103
    intro s16 e16
    have y4 : xi s16 50 4 = xi s 50 4 := by rw [e16, xi_pi, if_neg (by decide)]
    rw [y4]
    refine ⟨fun y => absurd y f8, fun _ s17 e17 s18 e18 s19 e19 s20 e20 s21 e21 s22 e22 s23 e23 => ?_⟩
    have ch : ∀ a b, ¬ (a = 50 ∧ (b = 3 ∨ b = 11 ∨ b = 21 ∨ b = 23 ∨ b = 27 ∨ b = 42 ∨ b = 45 ∨ b = 44)) → xi s23 a b = xi s a b := fun a b q => by rw [e23, xi_pi, if_neg (by omega), e22, xi_pi, if_neg (by omega), e21, xi_pi, if_neg (by omega), e20, xi_pi, if_neg (by omega), e19, xi_pi, if_neg (by omega), e18, xi_pi, if_neg (by omega), e17, xi_pi, if_neg (by omega), e16, xi_pi, if_neg (by omega)]
    have chl : ∀ a b, xl s23 a b = xl s a b := fun a b => by rw [e23, xl_pi, e22, xl_pi, e21, xl_pi, e20, xl_pi, e19, xl_pi, e18, xl_pi, e17, xl_pi, e16, xl_pi]
    have W : oW s13 s23 := ⟨fun a b q r _ => (ch a b (fun z => by
        by_cases y : b = 3
        · exact r ⟨z.1, .inr y⟩
        · exact q (by unfold rcl; omega))).trans (f1.1 a b q), fun a b q => (chl a b).trans (f1.2.1 a b q), by rw [e23, e22, e21, e20, e19, e18, e17, e16]; exact f1.2.2⟩
    refine kf e s23 hx (W13.trans W) (RR.back f3 g f2 ⟨?_, ?_, ?_, ?_, ?_, ?_, ?_⟩ (fun k j hk => ch k j (by omega)) (fun j => chl 64 j)) ?_ ?_ ((ch 50 4 (by omega)).trans f4) ((ch 50 5 (by omega)).trans f5)
    · rw [e23, xi_pi, if_neg (by decide), e22, xi_pi, if_neg (by decide), e21, xi_pi, if_neg (by decide), e20, xi_pi, if_neg (by decide), e19, xi_pi, if_neg (by decide), e18, xi_pi, if_neg (by decide), e17, xi_pi, if_pos ⟨rfl, rfl⟩]
    · rw [e23, xi_pi, if_neg (by decide), e22, xi_pi, if_neg (by decide), e21, xi_pi, if_neg (by decide), e20, xi_pi, if_neg (by decide), e19, xi_pi, if_neg (by decide), e18, xi_pi, if_pos ⟨rfl, rfl⟩]
    · rw [e23, xi_pi, if_neg (by decide), e22, xi_pi, if_neg (by decide), e21, xi_pi, if_neg (by decide), e20, xi_pi, if_neg (by decide), e19, xi_pi, if_pos ⟨rfl, rfl⟩]
    · rw [e23, xi_pi, if_neg (by decide), e22, xi_pi, if_neg (by decide), e21, xi_pi, if_neg (by decide), e20, xi_pi, if_pos ⟨rfl, rfl⟩]
    · rw [e23, xi_pi, if_neg (by decide), e22, xi_pi, if_neg (by decide), e21, xi_pi, if_pos ⟨rfl, rfl⟩]
    · rw [e23, xi_pi, if_pos ⟨rfl, rfl⟩]
    · rw [e23, xi_pi, if_neg (by decide), e22, xi_pi, if_pos ⟨rfl, rfl⟩]
    · rw [ch 50 1 (by omega), f1.1 50 1 (by unfold rcl; omega)]; exact z1
    · rw [e23, xi_pi, if_neg (by decide), e22, xi_pi, if_neg (by decide), e21, xi_pi, if_neg (by decide), e20, xi_pi, if_neg (by decide), e19, xi_pi, if_neg (by decide), e18, xi_pi, if_neg (by decide), e17, xi_pi, if_neg (by decide), e16, xi_pi, if_pos ⟨rfl, rfl⟩]; rfl
  have f70 : ∀ e s n m, X = .error e → RFl B e s13 s → 1 ≤ m → w_VectorSolverModel_read_70 Q m (nI (bma B)) (nI (bfi B (bma B))) (nI (bna B)) (nI (bas B)) (nI (bth B)) (nI (bsz B)) (nI (bwe B)) n s := fun e s n m hx f hm => by
    obtain ⟨m', rfl⟩ : ∃ m', m = m' + 1 := ⟨m - 1, by omega⟩
    unfold w_VectorSolverModel_read_70
    exact ⟨fun _ => f103 e s n hx f, fun z => absurd z f.X.1⟩
  -- the loop
  have key : ∀ m n B1 j s, N < j + m → gB B1 → bex B B1 → RS c l N B1 j s → od c l j = 70000 → oS s13 s → X = pAll c l m B1 j n → w_VectorSolverModel_read_70 Q (m + 1) (nI (bma B)) (nI (bfi B (bma B))) (nI (bna B)) (nI (bas B)) (nI (bth B)) (nI (bsz B)) (nI (bwe B)) (nI n) s := by
    intro m
    induction m with
    | zero =>
      intro n B1 j s hm _ _ S
      have := S.2.2.2.2.2.2.1
      omega
    | succ m ih =>
      intro n B1 j s hm g1 x1 S1 od1 o1 hx
      have hj := S1.2.2.2.2.2.2.1
      have n1 := H.1
      obtain ⟨t1, t2⟩ := tK_32 (j := j) H
      have tk := S1.2.1.t (j := j) hj
      unfold pAll at hx
      unfold w_VectorSolverModel_read_70
      rw [S1.2.2.2.1, S1.2.2.2.2.2.1, nI_clamp (n := j) (by omega), tk.1, rk_0 _ t1 t2]
      refine ⟨fun z => absurd rfl z, fun _ => ⟨vp_in_nI (by omega) (by decide), fun z => ?_, fun z => ?_⟩⟩
      · rw [if_pos z] at hx
        unfold w_VectorSolverModel_read_103
        intro s16 e16
        have c16 : ∀ a b, ¬ (a = 50 ∧ b = 3) → xi s16 a b = xi s a b := fun a b q => by rw [e16, xi_pi, if_neg q]
        rw [c16 50 4 (by decide), S1.2.2.2.1]
        refine ⟨fun _ => ?_, fun y => absurd (Int32.le_refl _) y⟩
        have W : oW s13 s16 := ⟨fun a b q r _ => (c16 a b (fun y => r ⟨y.1, .inr y.2⟩)).trans (o1.1 a b q), fun a b q => by rw [e16, xl_pi]; exact o1.2.1 a b q, by rw [e16]; exact o1.2.2⟩
        exact ko (B1, n) s16 hx (W13.trans W) (S1.2.2.1.k (fun j hj => c16 50 j (fun y => by rw [y.2] at hj; revert hj; decide)) (fun k j hk => c16 k j (by omega)) (fun j => by rw [e16, xl_pi])) (by rw [c16 50 1 (by decide), o1.1 50 1 (by unfold rcl; omega)]; exact z1) (by rw [e16, xi_pi, if_pos ⟨rfl, rfl⟩]; rfl) ((c16 50 4 (by decide)).trans S1.2.2.2.1) ((c16 50 5 (by decide)).trans S1.2.2.2.2.1)
      · rw [if_neg z] at hx
        refine r_cmd H g1 S1 z od1 (fun e s' he f => ?_) (fun r s2 hr S2 o2 => ?_)
        · rw [xqv_v]
          refine n_next f.X ?_
          rw [xqv_v]
          intro x28 _
          exact f70 e s' x28 _ (hx.trans (eb_er he)) (RFl.pre o1 x1 f) (by omega)
        · rw [xqv_v]
          rw [eb_ok hr] at hx
          obtain ⟨⟨q1, q2, q3, q4, q5⟩, q6⟩ := pCm_ok H g1 hj hr
          refine r_nextH H (S2.n q4) (fun s' y nb f _ => ?_) (fun s3 S3 o3 => ?_)
          · rw [xqv_v]
            intro x28 _
            refine f70 (badT c l (r.2 + 1)) s' x28 _ (hx.trans ?_) (RFl.pre (o1.trans o2) (x1.trans q2) f) (by omega)
            have hm' : ∃ m', m = m' + 1 := ⟨m - 1, by omega⟩
            obtain ⟨m', rfl⟩ := hm'
            unfold pAll
            rw [if_neg nb]
            exact eb_er (eb_er (if_neg (by omega)))
          · rw [xqv_v]
            intro x28 e28
            rw [show (1 : Int32) = nI 1 from rfl, nI_add] at e28
            subst e28
            exact ih (n + 1) r.1 (r.2 + 1) s3 (by omega) q1 (x1.trans q2) S3 (by omega) ((o1.trans o2).trans (o3.S (fun b hb => jR_rcl b (by revert b; decide)))) hx
  refine r_nextH H S13 (fun s' y nb f _ => ?_) (fun s14 S14 o14 => ?_)
  · rw [xqv_v]
    refine ⟨1, f70 _ s' 0 1 (hX.trans ?_) f (by decide)⟩
    unfold pAll
    rw [if_neg nb]
    exact eb_er (eb_er (if_neg (by omega)))
  · rw [xqv_v]
    exact ⟨_, key (l + 2) 0 B 0 s14 (by omega) g (bex.refl _) S14 rfl (o14.S (fun b hb => jR_rcl b (by revert b; decide))) hX⟩
end RRD
