/-! THE REFERENCE READS: a term is whole, the pile goes on -/
def DA (p hh k t : Nat) (σ σ' : xS) : Prop := xi σ' 75 p = nI (k + 1) ∧ xi σ' 76 hh = nI t ∧ (∀ a b, ¬ (a = 50 ∧ (b = 10 ∨ b = 29 ∨ b = 36)) → ¬ (a = 75 ∧ b = p) → ¬ (a = 76 ∧ b = hh) → xi σ' a b = xi σ a b) ∧ (∀ a b, xl σ' a b = xl σ a b) ∧ xb σ' = xb σ
section RGO
variable {c : Nat → Nat} {l N : Nat} {B : Bk} {i j p h nb m : Nat} {σ σ' : xS} {Q : xO → xS → Prop} {e : Nat × Nat} {K19 : Int32 → Int32 → xS → Prop} {K142 : Int32 → Int32 → Int32 → xS → Prop}
theorem DA.S {hh k t : Nat} (h : DA p hh k t σ σ') : oS σ σ' := ⟨fun a b q => h.2.2.1 a b (fun z => q (by unfold rcl; omega)) (fun z => q (by unfold rcl; omega)) (fun z => q (by unfold rcl; omega)), fun a b _ => h.2.2.2.1 a b, h.2.2.2.2⟩
theorem DA.P {hh k t : Nat} (a : DA p hh k t σ σ') (hle : h ≤ hh) : RPF p h nb σ σ' := ⟨a.S, fun a' b q1 q2 q3 => a.2.2.1 a' b (by omega) (by omega) (by omega), fun b q => a.2.2.1 76 b (by omega) (by omega) (by omega), fun a' b q1 q2 q3 => a.2.2.1 a' b (by omega) (by omega) (by omega)⟩
theorem fx19 {a t : Int32} (hx : RX σ) (k : Q (.inl (some (.int t))) σ) (hm : 1 ≤ m) : w_VectorSolverModel_term_19 Q m a t σ := by
  obtain ⟨m', rfl⟩ : ∃ m', m = m' + 1 := ⟨m - 1, by omega⟩
  unfold w_VectorSolverModel_term_19
  exact ⟨fun _ => k, fun z => absurd z hx.1⟩
theorem fx142 {a t w : Int32} (hx : RX σ) (k : K19 a t σ) (hm : 1 ≤ m) : w_VectorSolverModel_term_142 Q K19 m a t w σ := by
  obtain ⟨m', rfl⟩ : ∃ m', m = m' + 1 := ⟨m - 1, by omega⟩
  unfold w_VectorSolverModel_term_142
  exact ⟨fun _ => k, fun z => absurd z hx.1⟩
theorem ex142 {a t : Int32} (h4 : xi σ 50 4 = nI 0) (k : K19 a t σ) (hm : 1 ≤ m) : w_VectorSolverModel_term_142 Q K19 m a t 0 σ := by
  obtain ⟨m', rfl⟩ : ∃ m', m = m' + 1 := ⟨m - 1, by omega⟩
  unfold w_VectorSolverModel_term_142
  exact ⟨fun z => absurd h4 z, fun _ => ⟨fun _ => k, fun z => absurd rfl z⟩⟩
def gQ (Q : xO → xS → Prop) (K142 : Int32 → Int32 → Int32 → xS → Prop) (t : Int32) : xO → xS → Prop := xqi (fun r9 u8 => ((r9 = 0 → w_VectorSolverModel_term_186 Q K142 0 t u8) ∧ (¬ r9 = 0 → w_VectorSolverModel_term_187 Q K142 0 t 1 u8))) (fun n u => Q (.inr n) u)
theorem gQ0 {t : Int32} (k : K142 0 t 0 σ) : gQ Q K142 t (.inl (some (.int 0))) σ := by
  unfold gQ
  rw [xqi_i]
  refine ⟨fun _ => ?_, fun z => absurd rfl z⟩
  unfold w_VectorSolverModel_term_186 w_VectorSolverModel_term_187
  exact ⟨fun _ => k, fun z => absurd rfl z⟩
theorem gQa {t : Int32} (hp : xi σ 50 29 = nI p) (h64 : p < 64) (h70 : xi σ 70 p = nI 0) (k : wp_VectorSolverModel_apply (xqi (fun r7 u6 => K142 0 r7 1 u6) (fun n u => Q (.inr n) u)) σ) : gQ Q K142 t (.inl (some (.int 1))) σ := by
  unfold gQ
  rw [xqi_i]
  refine ⟨fun z => absurd z (by decide), fun _ => ?_⟩
  unfold w_VectorSolverModel_term_187
  rw [hp, nI_clamp (n := p) (by omega), h70]
  exact ⟨fun z => absurd z (by decide), fun _ => ⟨vp_in_nI (by omega) (by decide), fun z => absurd rfl z, fun _ => k⟩⟩
theorem gQl {t : Int32} (hp : xi σ 50 29 = nI p) (h64 : p < 64) (h70 : xi σ 70 p = nI 2) (k : K142 0 t 1 σ) : gQ Q K142 t (.inl (some (.int 1))) σ := by
  unfold gQ
  rw [xqi_i]
  refine ⟨fun z => absurd z (by decide), fun _ => ?_⟩
  unfold w_VectorSolverModel_term_187
  rw [hp, nI_clamp (n := p) (by omega), h70]
  exact ⟨fun z => absurd z (by decide), fun _ => ⟨vp_in_nI (by omega) (by decide), fun _ => k, fun z => absurd z (by decide)⟩⟩
theorem B_go {t : Int32} (h4 : xi σ 50 4 = nI 0) (hp : xi σ 50 29 = nI (p + 1)) (h64 : p < 64) (k : wp_VectorSolverModel_goOn (gQ Q (w_VectorSolverModel_term_142 Q K19 m) t) σ t) : w_VectorSolverModel_term_142 Q K19 (m + 1) 0 t 1 σ := by
  unfold w_VectorSolverModel_term_142
  refine ⟨fun z => absurd h4 z, fun _ => ⟨fun z => absurd z (by decide), fun _ => ⟨fun z => absurd rfl z, fun _ => ⟨fun _ => ?_, fun z => ?_⟩⟩⟩⟩
  · unfold w_VectorSolverModel_term_169
    exact ⟨fun z => absurd rfl z, fun _ => k⟩
  · rw [hp, show (0 : Int32) = nI 0 from rfl, nI_eq (by omega) (by decide)] at z
    omega
theorem RS.w (S : RS c l N B i σ) (h : oS σ σ') (h4 : xi σ' 50 4 = xi σ 50 4) (h5 : xi σ' 50 5 = xi σ 50 5) (h10 : xi σ' 50 10 = xi σ 50 10) (q : ∀ j, j ∈ [11, 21, 23, 27, 42, 44, 45] → xi σ' 50 j = xi σ 50 j) (q2 : ∀ k j, (56 ≤ k ∧ k ≤ 69) ∨ k = 80 → xi σ' k j = xi σ k j) (hl : ∀ j, xl σ' 64 j = xl σ 64 j) : RS c l N B i σ' := S.k h h4 h5 h10 (S.2.2.1.k q q2 hl)
/-- an argument is whole -/
theorem r_goA {t k beg hh : Nat} (H : okN c l N) (S : RS c l N B i σ) (hiN : i < N) (hP : RP (p + 1) hh nb σ) (h70 : xi σ 70 p = nI 0) (h71 : xi σ 71 p = nI beg) (h75 : xi σ 75 p = nI k) (hk : k ≤ 40) (hp : p < 63) (hh2 : hh < 2600)
    (kf1 : 40 ≤ k → ∀ σ', RFl B (11, beg) σ σ' → Q (.inl (some (.int 0))) σ')
    (kf2 : k < 40 → 16 ≤ tK c l (i + 1) → ∀ σ', RFl B (badT c l (i + 1)) σ σ' → Q (.inl (some (.int 0))) σ')
    (kc : k < 40 → tK c l (i + 1) = 1 → ∀ σ', RS c l N B (i + 1) σ' → RP p (hh + 1) nb σ' → DA p hh k t σ σ' → Q (.inl (some (.int 1))) σ')
    (kn : k < 40 → tK c l (i + 1) ≠ 1 → ∀ σ', RS c l N B (i + 1) σ' → RP (p + 1) (hh + 1) nb σ' → DA p hh k t σ σ' → Q (.inl (some (.int 0))) σ') : wp_VectorSolverModel_goOn Q σ (nI t) := by
  have n1 := H.1
  have vp : vp_in (nI p) 64 := vp_in_nI (by omega) (by decide)
  have cp : (nI p).toNatClampNeg = p := nI_clamp (by omega)
  unfold wp_VectorSolverModel_goOn
  rw [hP.1, show (1 : Int32) = nI 1 from rfl, nI_sub (by omega), Nat.add_sub_cancel]
  intro x1 e1
  subst e1
  rw [cp, h70]
  refine ⟨vp, fun z => absurd rfl z, fun _ => ⟨vp, vp, fun s20 e20 => ?_⟩⟩
  rw [h75, nI_add] at e20
  have c20 : ∀ a b, ¬ (a = 75 ∧ b = p) → xi s20 a b = xi σ a b := fun a b q => by rw [e20, xi_pi, if_neg q]
  have x75 : xi s20 75 p = nI (k + 1) := by rw [e20, xi_pi, if_pos ⟨rfl, rfl⟩]
  have l20 : ∀ a b, xl s20 a b = xl σ a b := fun a b => by rw [e20, xl_pi]
  have b20 : xb s20 = xb σ := by rw [e20]; rfl
  clear e20
  have oS20 : oS σ s20 := ⟨fun a b q => c20 a b (fun z => q (by unfold rcl; omega)), fun a b _ => l20 a b, b20⟩
  have S20 : RS c l N B i s20 := S.w oS20 (c20 50 4 (by omega)) (c20 50 5 (by omega)) (c20 50 10 (by omega)) (fun j _ => c20 50 j (by omega)) (fun k j hk => c20 k j (by omega)) (fun j => l20 64 j)
  have hi := S.2.2.2.2.2.2.1
  rw [x75, show (40 : Int32) = nI 40 from rfl, nI_ltI (by decide) (by omega)]
  refine ⟨vp, fun z => ?_, fun z => ?_⟩
  · unfold w_VectorSolverModel_goOn_43
    rw [cp, c20 71 p (by omega), h71]
    refine ⟨vp, r_wantF (B := B) (ek := 11) (ep := beg) S20.2.2.1 S20.2.2.2.1 S20.2.2.2.2.2.1 (by omega) rfl rfl rfl (by decide) (fun σ' f => ?_)⟩
    rw [xqi_i]
    exact ⟨fun y => absurd rfl y, fun _ => kf1 (by omega) σ' (RFl.pre oS20 (bex.refl _) f)⟩
  · unfold w_VectorSolverModel_goOn_43
    refine ⟨vp, r_wantT S20.2.2.2.1 (by decide) ?_⟩
    rw [xqi_i, c20 50 36 (by omega), hP.2.1, nI_clamp (n := hh) (by omega)]
    refine ⟨fun _ => ⟨vp_in_nI (by omega) (by decide), fun s23 e23 s24 e24 => ?_⟩, fun y => absurd y (by decide)⟩
    have y36 : xi s23 50 36 = nI hh := by rw [e23, xi_pi, if_neg (by omega), c20 50 36 (by omega)]; exact hP.2.1
    rw [y36, show (1 : Int32) = nI 1 from rfl, nI_add] at e24
    have c24 : ∀ a b, ¬ (a = 50 ∧ b = 36) → ¬ (a = 75 ∧ b = p) → ¬ (a = 76 ∧ b = hh) → xi s24 a b = xi σ a b := fun a b q1 q2 q3 => by rw [e24, xi_pi, if_neg q1, e23, xi_pi, if_neg q3, c20 a b q2]
    have l24 : ∀ a b, xl s24 a b = xl σ a b := fun a b => by rw [e24, xl_pi, e23, xl_pi]; exact l20 a b
    have b24 : xb s24 = xb σ := by rw [e24, e23]; exact b20
    have x36 : xi s24 50 36 = nI (hh + 1) := by rw [e24, xi_pi, if_pos ⟨rfl, rfl⟩]
    have x76 : xi s24 76 hh = nI t := by rw [e24, xi_pi, if_neg (by omega), e23, xi_pi, if_pos ⟨rfl, rfl⟩]
    have x75' : xi s24 75 p = nI (k + 1) := by rw [e24, xi_pi, if_neg (by omega), e23, xi_pi, if_neg (by omega)]; exact x75
    clear e23 e24 y36
    have oS24 : oS σ s24 := ⟨fun a b q => c24 a b (fun z => q (by unfold rcl; omega)) (fun z => q (by unfold rcl; omega)) (fun z => q (by unfold rcl; omega)), fun a b _ => l24 a b, b24⟩
    have S24 : RS c l N B i s24 := S.w oS24 (c24 50 4 (by omega) (by omega) (by omega)) (c24 50 5 (by omega) (by omega) (by omega)) (c24 50 10 (by omega) (by omega) (by omega)) (fun j hj => c24 50 j (fun z => by rw [z.2] at hj; revert hj; decide) (by omega) (by omega)) (fun k j hk => c24 k j (by omega) (by omega) (by omega)) (fun j => l24 64 j)
    refine r_next H (S24.n hiN) (fun σ' y f => ?_) (fun s25 S25 o25 => ?_)
    · rw [xqv_v]
      exact ⟨fun _ => kf2 (by omega) y σ' (RFl.pre oS24 (bex.refl _) f), fun w => absurd w f.X.1⟩
    · have t1 := (tK_32 (j := i + 1) H).1
      have t25 := S25.2.1.t (j := i + 1) S25.2.2.2.2.2.2.1
      have hi1 := S25.2.2.2.2.2.2.1
      have d25 : DA p hh k t σ s25 := by
        refine ⟨(o25.ne (by decide)).trans x75', (o25.ne (by decide)).trans x76, fun a b q1 q2 q3 => ?_, fun a b => (o25.2.1 a b).trans (l24 a b), o25.2.2.trans b24⟩
        rw [o25.1 a b (fun z => q1 ⟨z.1, .inl (List.mem_singleton.mp z.2)⟩)]
        exact c24 a b (by omega) q2 q3
      have x29 : xi s25 50 29 = nI (p + 1) := by rw [o25.at (by decide), c24 50 29 (by omega) (by omega) (by omega)]; exact hP.1
      have x36' : xi s25 50 36 = nI (hh + 1) := by rw [o25.at (by decide)]; exact x36
      have x38 : xi s25 50 38 = nI nb := by rw [o25.at (by decide), c24 50 38 (by omega) (by omega) (by omega)]; exact hP.2.2
      rw [xqv_v, S25.2.2.2.1, S25.2.2.2.2.2.1, nI_clamp (n := i + 1) (by omega), t25.1, show (2 : Int32) = nI (1 + 1) from rfl, rk_k _ t1 _ (by decide), x29, show (1 : Int32) = nI 1 from rfl, nI_sub (by omega), Nat.add_sub_cancel]
      refine ⟨fun y => absurd rfl y, fun _ => ⟨vp_in_nI (by omega) (by decide), fun y => kn (by omega) y s25 S25 ⟨x29, x36', x38⟩ d25, fun y s27 e27 => ?_⟩⟩
      have c27 : ∀ a b, ¬ (a = 50 ∧ b = 29) → xi s27 a b = xi s25 a b := fun a b q => by rw [e27, xi_pi, if_neg q]
      have o27 : oE [29] s25 s27 := by rw [e27]; exact oE.pi _ _ _ (by decide)
      refine kc (by omega) y s27 (S25.e o27 (by decide)) ⟨by rw [e27, xi_pi, if_pos ⟨rfl, rfl⟩], (c27 50 36 (by omega)).trans x36', (c27 50 38 (by omega)).trans x38⟩ ⟨(c27 75 p (by omega)).trans d25.1, (c27 76 hh (by omega)).trans d25.2.1, fun a b q1 q2 q3 => (c27 a b (by omega)).trans (d25.2.2.1 a b q1 q2 q3), fun a b => (o27.2.1 a b).trans (d25.2.2.2.1 a b), o27.2.2.trans d25.2.2.2.2⟩
/-- a let's body is whole -/
theorem r_goL {t nb' : Nat} (H : okN c l N) (S : RS c l N B i σ) (hiN : i < N) (hP : RP (p + 1) h nb' σ) (h70 : xi σ 70 p = nI 2) (hp : p < 63) (hn : nb ≤ nb') (h16 : nb' ≤ 16) (hb : ∀ b, nb ≤ b → b < nb' → xi σ 79 b = nI p) (hl : ∀ b, b + 1 = nb → ∃ q, xi σ 79 b = nI q ∧ q < p)
    (kf : ∀ e σ', pX c l (i + 1) 1 = .error e → RFl B e σ σ' → Q (.inl (some (.int 0))) σ')
    (ko : ∀ σ', pX c l (i + 1) 1 = .ok () → RS c l N B (i + 1) σ' → RP p h nb σ' → oE [10, 38, 29] σ σ' → Q (.inl (some (.int 1))) σ') : wp_VectorSolverModel_goOn Q σ (nI t) := by
  have vp : vp_in (nI p) 64 := vp_in_nI (by omega) (by decide)
  have cp : (nI p).toNatClampNeg = p := nI_clamp (by omega)
  have lp : ∀ (r3 : Int32), (r3 = 0 ∨ r3 = 1) → ∀ d s, xi s 50 38 = nI (nb + d) → nb + d ≤ nb' → xi s 50 29 = nI (p + 1) → (∀ b, b < nb' → xi s 79 b = xi σ 79 b) → (∀ s', oE [38, 29] s s' → xi s' 50 38 = nI nb → xi s' 50 29 = nI p → Q (.inl (some (.int r3))) s') → w_VectorSolverModel_goOn_224 Q (d + 1) (nI p) r3 s := by
    intro r3 hr d
    induction d with
    | zero =>
      intro s h38 hle h29 h79 k
      have w259 : w_VectorSolverModel_goOn_259 Q r3 s := by
        unfold w_VectorSolverModel_goOn_259
        intro s4 e4
        rw [h29, show (1 : Int32) = nI 1 from rfl, nI_sub (by omega), Nat.add_sub_cancel] at e4
        exact ⟨hr, k s4 (by rw [e4]; exact oE.pi _ _ _ (by decide)) (by rw [e4, xi_pi, if_neg (by omega)]; exact h38) (by rw [e4, xi_pi, if_pos ⟨rfl, rfl⟩])⟩
      unfold w_VectorSolverModel_goOn_224
      rw [h38, show (0 : Int32) = nI 0 from rfl, nI_leI (by omega) (by decide)]
      refine ⟨fun _ => w259, fun z => ?_⟩
      obtain ⟨q, q1, q2⟩ := hl (nb - 1) (by omega)
      rw [show (1 : Int32) = nI 1 from rfl, nI_sub (by omega), nI_clamp (n := nb + 0 - 1) (by omega), h79 _ (by omega), show nb + 0 - 1 = nb - 1 by omega, q1, nI_eq (by omega) (by omega)]
      exact ⟨vp_in_nI (by omega) (by decide), fun _ => w259, fun y => absurd y (by omega)⟩
    | succ d ih =>
      intro s h38 hle h29 h79 k
      unfold w_VectorSolverModel_goOn_224
      rw [h38, show (0 : Int32) = nI 0 from rfl, nI_leI (by omega) (by decide), show (1 : Int32) = nI 1 from rfl, nI_sub (by omega), nI_clamp (n := nb + (d + 1) - 1) (by omega), h79 _ (by omega), hb _ (by omega) (by omega)]
      refine ⟨fun z => absurd z (by omega), fun _ => ⟨vp_in_nI (by omega) (by decide), fun z => absurd rfl z, fun _ s5 e5 => ?_⟩⟩
      have o5 : oE [38] s s5 := by rw [e5]; exact oE.pi _ _ _ (by decide)
      exact ih s5 (by rw [e5, xi_pi, if_pos ⟨rfl, rfl⟩, show nb + (d + 1) - 1 = nb + d by omega]) (by omega) ((o5.at (by decide)).trans h29) (fun b hb' => (o5.ne (by decide)).trans (h79 b hb')) (fun s' o' a1 a2 => k s' ((o5.up (by decide)).trans o') a1 a2)
  obtain ⟨d, hd⟩ : ∃ d, nb' = nb + d := ⟨nb' - nb, by omega⟩
  unfold wp_VectorSolverModel_goOn
  rw [hP.1, show (1 : Int32) = nI 1 from rfl, nI_sub (by omega), Nat.add_sub_cancel]
  intro x1 e1
  subst e1
  rw [cp, h70]
  refine ⟨vp, fun _ => ⟨vp, fun _ => ?_, fun z => absurd z (by decide)⟩, fun z => absurd z (by decide)⟩
  refine r_needG (k0 := 1) H (by decide) (S.n hiN) (fun e σ' he f o' => ?_) (fun s1 h1 S1 o1 => ?_)
  · rw [xqi_i]
    refine ⟨_, lp 0 (.inl rfl) d σ' (by rw [o'.at (by decide), hP.2.2, hd]) (by omega) (by rw [o'.at (by decide)]; exact hP.1) (fun b _ => o'.ne (by decide)) (fun s' o2 _ _ => kf e s' he ?_)⟩
    exact f.post (o2.S (fun b hb => jR_rcl b (by revert b; decide))) (o2.at (by decide)) (o2.at (by decide)) (o2.at (by decide)) (fun j hj => o2.at (by revert j; decide)) (fun k j hk => o2.ne (by omega)) (fun j => o2.2.1 64 j)
  · rw [xqi_i]
    refine ⟨_, lp 1 (.inr rfl) d s1 (by rw [o1.at (by decide), hP.2.2, hd]) (by omega) (by rw [o1.at (by decide)]; exact hP.1) (fun b _ => o1.ne (by decide)) (fun s' o2 a1 a2 => ?_)⟩
    exact ko s' h1 (S1.e o2 (by decide)) ⟨a2, by rw [o2.at (by decide), o1.at (by decide)]; exact hP.2.1, a1⟩ ((o1.up (by decide)).trans (o2.up (by decide)))
/-- a bound word's term is laid -/
def SG (p nb t : Nat) (z : Bool) (σ σ' : xS) : Prop := xi σ' 78 nb = nI t ∧ (z = true → xi σ' 70 p = nI 2) ∧ (∀ a b, ¬ (a = 50 ∧ b = 10) → ¬ (a = 78 ∧ b = nb) → ¬ (z = true ∧ a = 70 ∧ b = p) → xi σ' a b = xi σ a b) ∧ (∀ a b, xl σ' a b = xl σ a b) ∧ xb σ' = xb σ
theorem SG.S {t : Nat} {z : Bool} (h : SG p nb t z σ σ') : oS σ σ' := ⟨fun a b q => h.2.2.1 a b (fun z => q (by unfold rcl; omega)) (fun z => q (by unfold rcl; omega)) (fun z => q (by unfold rcl; omega)), fun a b _ => h.2.2.2.1 a b, h.2.2.2.2⟩
/-- a bound word's term is whole -/
theorem r_goS {t : Nat} (H : okN c l N) (S : RS c l N B i σ) (hiN : i < N) (hP : RP (p + 1) h (nb + 1) σ) (h70 : xi σ 70 p = nI 1) (hp : p < 63) (hn : nb < 16)
    (kf : ∀ e σ', (pX c l (i + 1) 1 = .error e ∨ (pX c l (i + 1) 1 = .ok () ∧ tK c l (i + 2) ≠ 0 ∧ pX c l (i + 2) 1 = .error e) ∨ (pX c l (i + 1) 1 = .ok () ∧ tK c l (i + 2) = 1 ∧ 16 ≤ tK c l (i + 3) ∧ e = badT c l (i + 3))) → RFl B e σ σ' → Q (.inl (some (.int 0))) σ')
    (ko : pX c l (i + 1) 1 = .ok () → tK c l (i + 2) = 0 → ∀ σ', RS c l N B (i + 2) σ' → SG p nb t false σ σ' → wp_VectorSolverModel_bind (xqv (fun u16 => wp_VectorSolverModel_next (xqv (fun u18 => Q (.inl (some (.int 0))) u18) (fun n u => Q (.inr n) u)) u16) (fun n u => Q (.inr n) u)) σ')
    (kb : pX c l (i + 1) 1 = .ok () → tK c l (i + 2) = 1 → ∀ σ', RS c l N B (i + 3) σ' → SG p nb t true σ σ' → Q (.inl (some (.int 0))) σ') : wp_VectorSolverModel_goOn Q σ (nI t) := by
  have n1 := H.1
  have vp : vp_in (nI p) 64 := vp_in_nI (by omega) (by decide)
  have cp : (nI p).toNatClampNeg = p := nI_clamp (by omega)
  unfold wp_VectorSolverModel_goOn
  rw [hP.1, show (nI (p + 1) : Int32) - 1 = nI p by rw [show (1 : Int32) = nI 1 from rfl, nI_sub (by omega), Nat.add_sub_cancel]]
  intro x1 e1
  subst e1
  rw [cp, h70, hP.2.2, show (nI (nb + 1) : Int32) - 1 = nI nb by rw [show (1 : Int32) = nI 1 from rfl, nI_sub (by omega), Nat.add_sub_cancel], nI_clamp (n := nb) (by omega)]
  refine ⟨vp, fun _ => ⟨vp, fun z => absurd rfl z, fun _ => ⟨vp_in_nI (by omega) (by decide), fun s6 e6 => ?_⟩⟩, fun z => absurd z (by decide)⟩
  have S6 : RS c l N B i s6 := by rw [e6]; exact S.o (by decide)
  have G6 : SG p nb t false σ s6 := ⟨by rw [e6, xi_pi, if_pos ⟨rfl, rfl⟩], fun z => (by cases z), fun a b _ q _ => by rw [e6, xi_pi, if_neg q], fun a b => by rw [e6, xl_pi], by rw [e6]; rfl⟩
  clear e6
  have f180 : ∀ s, RX s → Q (.inl (some (.int 0))) s → w_VectorSolverModel_goOn_180 Q (nI p) s := fun s hx k => by
    have w : ∀ t1, w_VectorSolverModel_goOn_199 Q (nI p) t1 s := fun t1 => by
      unfold w_VectorSolverModel_goOn_199
      refine n_must hx ?_
      rw [xqi_i]
      exact ⟨fun _ => k, fun z => absurd rfl z⟩
    unfold w_VectorSolverModel_goOn_180
    exact ⟨hx.v, fun _ => w _, fun _ => w _⟩
  refine r_need (k0 := 1) H (by decide) (S6.n hiN) (fun e s' he f => ?_) (fun s7 h7 S7 o7 => ?_)
  · rw [xqi_i]
    refine n_next f.X ?_
    rw [xqv_v]
    exact ⟨fun _ => f180 s' f.X (kf e s' (.inl he) (RFl.pre G6.S (bex.refl _) f)), fun z => absurd z f.X.1⟩
  rw [xqi_i]
  have k7 := pX_i h7
  have b7 := H.lt (i := i + 1) S7.2.2.2.2.2.2.1 (by omega)
  have G7 : SG p nb t false σ s7 := ⟨(o7.ne (by decide)).trans G6.1, fun z => (by cases z), fun a b q1 q2 q3 => (o7.1 a b (fun z => q1 ⟨z.1, List.mem_singleton.mp z.2⟩)).trans (G6.2.2.1 a b q1 q2 q3), fun a b => (o7.2.1 a b).trans (G6.2.2.2.1 a b), o7.2.2.trans G6.2.2.2.2⟩
  refine r_next H (S7.n b7) (fun s' y f => ?_) (fun s9 S9 o9 => ?_)
  · rw [xqv_v]
    have y : 16 ≤ tK c l (i + 2) := y
    refine ⟨fun _ => f180 s' f.X (kf _ s' (.inr (.inl ⟨h7, by omega, if_neg (by omega)⟩)) (RFl.pre G7.S (bex.refl _) f)), fun z => absurd z f.X.1⟩
  have S9 : RS c l N B (i + 2) s9 := S9
  have G9 : SG p nb t false σ s9 := ⟨(o9.ne (by decide)).trans G7.1, fun z => (by cases z), fun a b q1 q2 q3 => (o9.1 a b (fun z => q1 ⟨z.1, List.mem_singleton.mp z.2⟩)).trans (G7.2.2.1 a b q1 q2 q3), fun a b => (o9.2.1 a b).trans (G7.2.2.2.1 a b), o9.2.2.trans G7.2.2.2.2⟩
  have t1 := (tK_32 (j := i + 2) H).1
  have hi2 := S9.2.2.2.2.2.2.1
  have t9 := S9.2.1.t (j := i + 2) hi2
  have v2 : vp_in (nI (i + 2)) 65537 := vp_in_nI (by omega) (by decide)
  have w180 : tK c l (i + 2) ≠ 0 → w_VectorSolverModel_goOn_180 Q (nI p) s9 := fun z0 => by
    unfold w_VectorSolverModel_goOn_180
    rw [S9.2.2.2.2.2.1, nI_clamp (n := i + 2) (by omega), t9.1, show (2 : Int32) = nI (1 + 1) from rfl, rk_k _ t1 _ (by decide)]
    refine ⟨v2, fun z => ?_, fun z => ?_⟩
    · unfold w_VectorSolverModel_goOn_199
      refine r_mustF H S9 rfl (fun s' f => ?_)
      rw [xqi_i]
      exact ⟨fun _ => kf _ s' (.inr (.inl ⟨h7, z0, if_neg z⟩)) (RFl.pre G9.S (bex.refl _) f), fun y => absurd rfl y⟩
    · unfold w_VectorSolverModel_goOn_199
      refine r_mustT H S9 (by decide) ?_
      rw [xqi_i, cp]
      refine ⟨fun y => absurd y (by decide), fun _ => ⟨vp, fun s13 e13 => ?_⟩⟩
      have S13 : RS c l N B (i + 2) s13 := by rw [e13]; exact S9.o (by decide)
      have G13 : SG p nb t true σ s13 := ⟨by rw [e13, xi_pi, if_neg (by omega)]; exact G9.1, fun _ => by rw [e13, xi_pi, if_pos ⟨rfl, rfl⟩]; rfl, fun a b q1 q2 q3 => by rw [e13, xi_pi, if_neg (fun y => q3 ⟨rfl, y⟩)]; exact G9.2.2.1 a b q1 q2 (fun y => by cases y.1), fun a b => by rw [e13, xl_pi]; exact G9.2.2.2.1 a b, by rw [e13]; exact G9.2.2.2.2⟩
      clear e13
      have b2 := H.lt (i := i + 2) hi2 (by omega)
      refine r_next H (S13.n b2) (fun s' y f => ?_) (fun s14 S14 o14 => ?_)
      · rw [xqv_v]
        exact kf _ s' (.inr (.inr ⟨h7, z, y, rfl⟩)) (RFl.pre G13.S (bex.refl _) f)
      · rw [xqv_v]
        exact kb h7 z s14 S14 ⟨(o14.ne (by decide)).trans G13.1, fun q => (o14.ne (by decide)).trans (G13.2.1 q), fun a b q1 q2 q3 => (o14.1 a b (fun z => q1 ⟨z.1, List.mem_singleton.mp z.2⟩)).trans (G13.2.2.1 a b q1 q2 q3), fun a b => (o14.2.1 a b).trans (G13.2.2.2.1 a b), o14.2.2.trans G13.2.2.2.2⟩
  rw [xqv_v, S9.2.2.2.1, S9.2.2.2.2.2.1, nI_clamp (n := i + 2) (by omega), t9.1, show (1 : Int32) = nI (0 + 1) from rfl, rk_k _ t1 _ (by decide)]
  exact ⟨fun z => absurd rfl z, fun _ => ⟨v2, fun z => w180 z, fun z => ko h7 z s9 S9 G9⟩⟩
end RGO
