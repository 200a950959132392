/-! THE REFERENCE READS: an opening bracket -/
section ROP
variable {c : Nat → Nat} {l N : Nat} {B : Bk} {i j p h nb m : Nat} {σ σ' : xS} {Q : xO → xS → Prop} {e : Nat × Nat}
theorem tR_bad (h : 16 ≤ tK c l i) : tR c l i = none := by
  cases q : tR c l i with
  | none => rfl
  | some n => have := (tok_R q).1; omega
theorem RFl.pi {a b : Nat} {x : Int32} (f : RFl B e σ σ') (h : (70 ≤ a ∧ a ≤ 79) ∨ (a = 50 ∧ (b = 29 ∨ b = 36 ∨ b = 38))) : RFl B e σ (xpi σ' a b x) := by
  refine f.post (oS.pi _ _ _ _ (by unfold rcl; omega)) (by rw [xi_pi, if_neg (by omega)]) (by rw [xi_pi, if_neg (by omega)]) (by rw [xi_pi, if_neg (by omega)]) (fun j hj => ?_) (fun k j hk => by rw [xi_pi, if_neg (by omega)]) (fun j => xl_pi _ _ _ _ _ _)
  have hj : j = 11 ∨ j = 21 ∨ j = 23 ∨ j = 27 ∨ j = 42 ∨ j = 44 ∨ j = 45 := by simpa using hj
  rw [xi_pi, if_neg (by omega)]
theorem RFl.X (f : RFl B e σ σ') : RX σ' := f.2.2.2.2
theorem n_346 (f : RFl B e σ σ') (k : ∀ s, RFl B e σ s → Q (.inl (some (.int 0))) s) : w_VectorSolverModel_opening_346 Q σ' := by
  unfold w_VectorSolverModel_opening_346
  intro s11 e11
  have f1 : RFl B e σ s11 := by rw [e11]; exact f.pi (.inr ⟨rfl, .inl rfl⟩)
  refine n_next f1.X ?_
  rw [xqv_v]
  exact ⟨fun _ => k _ f1, fun z => absurd z f1.X.1⟩
theorem n_339 {t1 t2 : Int32} (f : RFl B e σ σ') (v : vp_in t1 64) (k : ∀ s, RFl B e σ s → Q (.inl (some (.int 0))) s) : w_VectorSolverModel_opening_339 Q t1 t2 σ' := by
  unfold w_VectorSolverModel_opening_339
  refine ⟨v, fun s25 e25 => ?_⟩
  have f1 : RFl B e σ s25 := by rw [e25]; exact f.pi (.inl (by decide))
  refine n_need f1.X ?_
  rw [xqi_i]
  exact n_346 f1 k
/-- behind the first numeral of an indexed operator -/
def g259n (Q : xO → xS → Prop) (s24 : xS) : Prop := vp_in (xi s24 50 29) 64 ∧ ((¬ (xi s24 72 (xi s24 50 29).toNatClampNeg) = 36 → w_VectorSolverModel_opening_339 Q (xi s24 50 29) 0 s24) ∧ ((xi s24 72 (xi s24 50 29).toNatClampNeg) = 36 → (vp_in (xi s24 50 29) 64 ∧ wp_VectorSolverModel_needNumber (xqi (fun r29 u28 => w_VectorSolverModel_opening_339 Q (xi s24 50 29) r29 u28) (fun n u => Q (.inr n) u)) s24 0 ((xi s24 73 (xi s24 50 29).toNatClampNeg).toInt64))))
/-- behind the test of an indexed operator's name -/
def g259 (Q : xO → xS → Prop) (u19 : xS) : Prop := vp_in (xi u19 50 10) 65537 ∧ (vp_in (xi u19 50 29) 64 ∧ (∀ s21 : xS, s21 = xpi u19 72 (xi u19 50 29).toNatClampNeg (xi u19 55 (xi u19 50 10).toNatClampNeg) → wp_VectorSolverModel_needNumber (xqi (fun r23 u22 => (vp_in (xi s21 50 29) 64 ∧ (∀ s24 : xS, s24 = xpi u22 73 (xi s21 50 29).toNatClampNeg r23 → g259n Q s24))) (fun n u => Q (.inr n) u)) s21 0 2147483647))
theorem n_259n (f : RFl B e σ σ') (hp : xi σ' 50 29 = nI p) (h64 : p < 64) (k : ∀ s, RFl B e σ s → Q (.inl (some (.int 0))) s) : g259n Q σ' := by
  have vp : vp_in (nI p) 64 := vp_in_nI (by omega) (by decide)
  unfold g259n
  rw [hp]
  refine ⟨vp, fun _ => n_339 f vp k, fun _ => ⟨vp, n_num f.X ?_⟩⟩
  rw [xqi_i]
  exact n_339 f vp k
theorem n_259 (f : RFl B e σ σ') (hp : xi σ' 50 29 = nI p) (h64 : p < 64) (k : ∀ s, RFl B e σ s → Q (.inl (some (.int 0))) s) : g259 Q σ' := by
  have vp : vp_in (nI p) 64 := vp_in_nI (by omega) (by decide)
  unfold g259
  rw [hp]
  refine ⟨f.X.v, vp, fun s21 e21 => ?_⟩
  have f1 : RFl B e σ s21 := by rw [e21]; exact f.pi (.inl (by decide))
  have h1 : xi s21 50 29 = nI p := by rw [e21, xi_pi, if_neg (by omega)]; exact hp
  refine n_num f1.X ?_
  rw [xqi_i, h1]
  refine ⟨vp, fun s24 e24 => ?_⟩
  have f2 : RFl B e σ s24 := by rw [e24]; exact f1.pi (.inl (by decide))
  exact n_259n f2 (by rw [e24, xi_pi, if_neg (by omega)]; exact h1) h64 k
/-- an application is begun at pile place p -/
def OPD (p beg : Nat) (o : Nat × Nat × Nat × Nat) (σ σ' : xS) : Prop := (xi σ' 70 p = nI 0 ∧ xi σ' 71 p = nI beg ∧ xi σ' 72 p = nI (opr o.1) ∧ xi σ' 73 p = nI o.2.1 ∧ xi σ' 74 p = nI o.2.2.1 ∧ xi σ' 75 p = nI 0) ∧ (∀ a b, ¬ (a = 50 ∧ b = 10) → ¬ (70 ≤ a ∧ a ≤ 75 ∧ b = p) → xi σ' a b = xi σ a b) ∧ (∀ a b, xl σ' a b = xl σ a b) ∧ xb σ' = xb σ
/-- only the pile's place p and the token change -/
def oO (p : Nat) (σ σ' : xS) : Prop := (∀ a b, ¬ (a = 50 ∧ b = 10) → ¬ (70 ≤ a ∧ a ≤ 75 ∧ b = p) → xi σ' a b = xi σ a b) ∧ (∀ a b, xl σ' a b = xl σ a b) ∧ xb σ' = xb σ
theorem oO.trans {σ2 : xS} (h : oO p σ σ') (h2 : oO p σ' σ2) : oO p σ σ2 := ⟨fun a b q r => (h2.1 a b q r).trans (h.1 a b q r), fun a b => (h2.2.1 a b).trans (h.2.1 a b), h2.2.2.trans h.2.2⟩
theorem oE.O (h : oE [10] σ σ') : oO p σ σ' := ⟨fun a b q _ => h.1 a b (fun z => q ⟨z.1, List.mem_singleton.mp z.2⟩), h.2.1, h.2.2⟩
theorem oO.pi {a : Nat} {x : Int32} (h : 70 ≤ a ∧ a ≤ 75) : oO p σ (xpi σ a p x) := ⟨fun a' b' _ q => by rw [xi_pi, if_neg (fun z => q (by omega))], fun _ _ => rfl, rfl⟩
theorem oO.S (h : oO p σ σ') : oS σ σ' := ⟨fun a b q => h.1 a b (fun z => q (by unfold rcl; omega)) (fun z => q (by unfold rcl; omega)), fun a b _ => h.2.1 a b, h.2.2⟩
theorem RS.o (S : RS c l N B i σ) {a : Nat} {x : Int32} (h : 70 ≤ a ∧ a ≤ 79) : RS c l N B i (xpi σ a p x) := by
  have ch : ∀ a' b', a' ≠ a → xi (xpi σ a p x) a' b' = xi σ a' b' := fun a' b' q => by rw [xi_pi, if_neg (by omega)]
  exact S.k (oS.pi _ _ _ _ (by unfold rcl; omega)) (ch 50 4 (by omega)) (ch 50 5 (by omega)) (ch 50 10 (by omega)) (S.2.2.1.k (fun j _ => ch 50 j (by omega)) (fun k j hk => ch k j (by omega)) (fun j => xl_pi _ _ _ _ _ _))
theorem r_opP (H : okN c l N) (S : RS c l N B i σ) (k0 : tK c l i = 0) (hp : xi σ 50 29 = nI p) (h64 : p < 64) (hR : tR c l (i + 1) ≠ some 9) (kf : ∀ e σ', pOp c l (i + 1) = .error e → RFl B e σ σ' → Q (.inl (some (.int 0))) σ') (kg : ∀ o σ', pOp c l (i + 1) = .ok o → RS c l N B o.2.2.2 σ' → OPD p (tF c l i) o σ σ' → w_VectorSolverModel_opening_346 Q σ') : wp_VectorSolverModel_opening Q σ := by
  have n1 := H.1
  have hi := S.2.2.2.2.2.2.1
  have b0 := H.lt (i := i) hi (by omega)
  have vp : vp_in (nI p) 64 := vp_in_nI (by omega) (by decide)
  have cp : (nI p).toNatClampNeg = p := nI_clamp (by omega)
  have vi : vp_in (nI i) 65537 := vp_in_nI (by omega) (by decide)
  have vj : vp_in (nI (i + 1)) 65537 := vp_in_nI (by omega) (by decide)
  have kbad : 16 ≤ tK c l (i + 1) → pOp c l (i + 1) = .error (badT c l (i + 1)) := fun z => by
    unfold pOp
    rw [if_neg (by omega), tR_bad z]
  unfold wp_VectorSolverModel_opening
  rw [S.2.2.2.2.2.1]
  intro x1 e1
  subst e1
  refine r_next H (S.n b0) (fun σ' z f => ?_) (fun s2 S2 o2 => ?_)
  · rw [xqv_v]
    exact ⟨fun y => absurd y f.X.2.2, fun _ => kf _ σ' (kbad z) f⟩
  have hp2 : xi s2 50 29 = nI p := (o2.at (by decide)).trans hp
  have tki := S2.2.1.t (j := i) hi
  have tkj := S2.2.1.t (j := i + 1) S2.2.2.2.2.2.2.1
  rw [xqv_v, S2.2.2.2.1, hp2, cp, nI_clamp (n := i) (by omega), tki.2.1]
  refine ⟨fun _ => ⟨vi, vp, fun s4 e4 => ?_⟩, fun z => absurd (Int32.le_refl _) z⟩
  have O4 : oO p s2 s4 := by rw [e4]; exact oO.pi (by decide)
  have S4 : RS c l N B (i + 1) s4 := by rw [e4]; exact S2.o (by decide)
  have y71 : xi s4 71 p = nI (tF c l i) := by rw [e4, xi_pi, if_pos ⟨rfl, rfl⟩]
  clear e4
  rw [O4.1 50 29 (by omega) (by omega), hp2, cp]
  refine ⟨vp, fun s5 e5 => ?_⟩
  have O5 : oO p s2 s5 := O4.trans (by rw [e5]; exact oO.pi (by decide))
  have S5 : RS c l N B (i + 1) s5 := by rw [e5]; exact S4.o (by decide)
  have z71 : xi s5 71 p = nI (tF c l i) := by rw [e5, xi_pi, if_neg (by omega)]; exact y71
  have z75 : xi s5 75 p = nI 0 := by rw [e5, xi_pi, if_pos ⟨rfl, rfl⟩]; rfl
  clear e5
  rw [S5.2.2.2.2.2.1, nI_clamp (n := i + 1) (by omega), O5.1 55 (i + 1) (by omega) (by omega), tkj.2.2.2, show (48 : Int32) = nI (ridx 9) from rfl, rix_eq (fun m h => tR_lt h) (by decide)]
  refine ⟨vj, fun _ => ?_, fun z => absurd z hR⟩
  rw [O5.1 50 29 (by omega) (by omega), hp2, cp]
  refine ⟨vp, fun s6 e6 => ?_⟩
  have O6 : oO p s2 s6 := O5.trans (by rw [e6]; exact oO.pi (by decide))
  have S6 : RS c l N B (i + 1) s6 := by rw [e6]; exact S5.o (by decide)
  have a70 : xi s6 70 p = nI 0 := by rw [e6, xi_pi, if_pos ⟨rfl, rfl⟩]; rfl
  have a71 : xi s6 71 p = nI (tF c l i) := by rw [e6, xi_pi, if_neg (by omega)]; exact z71
  have a75 : xi s6 75 p = nI 0 := by rw [e6, xi_pi, if_neg (by omega)]; exact z75
  clear e6
  rw [O6.1 50 29 (by omega) (by omega), hp2, cp]
  refine ⟨vp, fun s7 e7 => ?_⟩
  have O7 : oO p s2 s7 := O6.trans (by rw [e7]; exact oO.pi (by decide))
  have S7 : RS c l N B (i + 1) s7 := by rw [e7]; exact S6.o (by decide)
  have b70 : xi s7 70 p = nI 0 := by rw [e7, xi_pi, if_neg (by omega)]; exact a70
  have b71 : xi s7 71 p = nI (tF c l i) := by rw [e7, xi_pi, if_neg (by omega)]; exact a71
  have b73 : xi s7 73 p = nI 0 := by rw [e7, xi_pi, if_pos ⟨rfl, rfl⟩]; rfl
  have b75 : xi s7 75 p = nI 0 := by rw [e7, xi_pi, if_neg (by omega)]; exact a75
  clear e7
  rw [O7.1 50 29 (by omega) (by omega), hp2, cp]
  refine ⟨vp, fun s8 e8 => ?_⟩
  have O8 : oO p s2 s8 := O7.trans (by rw [e8]; exact oO.pi (by decide))
  have S8 : RS c l N B (i + 1) s8 := by rw [e8]; exact S7.o (by decide)
  have d70 : xi s8 70 p = nI 0 := by rw [e8, xi_pi, if_neg (by omega)]; exact b70
  have d71 : xi s8 71 p = nI (tF c l i) := by rw [e8, xi_pi, if_neg (by omega)]; exact b71
  have d73 : xi s8 73 p = nI 0 := by rw [e8, xi_pi, if_neg (by omega)]; exact b73
  have d74 : xi s8 74 p = nI 0 := by rw [e8, xi_pi, if_pos ⟨rfl, rfl⟩]; rfl
  have d75 : xi s8 75 p = nI 0 := by rw [e8, xi_pi, if_neg (by omega)]; exact b75
  clear e8
  have O28 : oO p σ s8 := (oE.O o2).trans O8
  have hp8 : xi s8 50 29 = nI p := (O28.1 50 29 (by omega) (by omega)).trans hp
  have fe : ∀ e s', pOp c l (i + 1) = .error e → RFl B e s8 s' → Q (.inl (some (.int 0))) s' := fun e s' he f => kf e s' he (RFl.pre O28.S (bex.refl _) f)
  have t8 := S8.2.1.t (j := i + 1) S8.2.2.2.2.2.2.1
  -- an indexed operator, or a fault
  have w187 : (∀ o, tR c l (i + 1) = some o → ¬ 13 ≤ o) → w_VectorSolverModel_opening_187 Q s8 := fun no => by
    have t1 := (tK_32 (j := i + 1) H).1
    unfold w_VectorSolverModel_opening_187
    rw [S8.2.2.2.2.2.1, nI_clamp (n := i + 1) (by omega), t8.1, show (1 : Int32) = nI (0 + 1) from rfl, rk_k _ t1 _ (by decide)]
    refine ⟨vj, fun z => ?_, fun z => ?_⟩
    · unfold w_VectorSolverModel_opening_206
      refine r_mustF H S8 rfl (fun s' f => ?_)
      rw [xqi_i]
      refine ⟨fun _ => n_346 f (fun s f' => fe _ s ?_ f'), fun y => absurd rfl y⟩
      unfold pOp
      rw [if_neg z]
      cases q : tR c l (i + 1) with
      | none => rfl
      | some o =>
        dsimp only
        rw [if_neg (no o q)]
    have u : pOp c l (i + 1) = eb (pXR c l (i + 2) 4) fun _ => match tR c l (i + 3) with
      | none => .error (badT c l (i + 3))
      | some o => if 10 ≤ o ∧ o ≤ 12 then
          eb (pN c l (i + 4) 0 2147483647) fun h => if o = 10 then eb (pN c l (i + 5) 0 h) fun lo => eb (pX c l (i + 6) 1) fun _ => .ok (o, h, lo, i + 6) else eb (pX c l (i + 5) 1) fun _ => .ok (o, h, 0, i + 5)
        else .error (badT c l (i + 3)) := by
      unfold pOp
      rw [if_pos z]
      rfl
    rw [u] at fe kg
    have b1 := H.lt (i := i + 1) S8.2.2.2.2.2.2.1 (by omega)
    unfold w_VectorSolverModel_opening_206
    refine r_mustT H S8 (by decide) ?_
    rw [xqi_i]
    refine ⟨fun y => absurd y (by decide), fun _ => ?_⟩
    refine r_needW (r0 := 4) H (by decide) (S8.n b1) (fun e s' he f => ?_) (fun s9 h9 S9 o9 => ?_)
    · rw [xqi_i]
      exact ⟨fun _ => n_346 f (fun s f' => fe _ s (eb_er he) f'), fun y => absurd rfl y⟩
    have h9 : pXR c l (i + 2) 4 = .ok () := h9
    have S9 : RS c l N B (i + 2) s9 := S9
    rw [eb_ok h9] at fe kg
    have k9 := (tok_R (pXR_i h9)).1
    have b2 := H.lt (i := i + 2) S9.2.2.2.2.2.2.1 (by omega)
    rw [xqi_i]
    refine ⟨fun y => absurd y (by decide), fun _ => ?_⟩
    have hp9 : xi s9 50 29 = nI p := (o9.at (by decide)).trans hp8
    refine r_nextG H (S9.n b2) (fun s' y f o' => ?_) (fun s10 S10 o10 => ?_)
    · rw [xqv_v]
      have y : 16 ≤ tK c l (i + 3) := y
      have hp' : xi s' 50 29 = nI p := (o'.at (by decide)).trans hp9
      have fz : ∀ s, RFl B (badT c l (i + 3)) s9 s → Q (.inl (some (.int 0))) s := fun s f' => fe _ s (by rw [tR_bad y]) (RFl.e o9 (by decide) f')
      have w : ∀ t1, w_VectorSolverModel_opening_259 Q t1 s' := fun t1 => by
        unfold w_VectorSolverModel_opening_259
        refine n_must f.X ?_
        rw [xqi_i]
        exact n_259 f hp' h64 fz
      unfold w_VectorSolverModel_opening_258
      exact ⟨f.X.v, fun _ => w _, fun _ => ⟨f.X.v, fun _ => w _, fun _ => w _⟩⟩
    have S10 : RS c l N B (i + 3) s10 := S10
    have hi3 := S10.2.2.2.2.2.2.1
    have v3 : vp_in (nI (i + 3)) 65537 := vp_in_nI (by omega) (by decide)
    have hp10 : xi s10 50 29 = nI p := (o10.at (by decide)).trans hp9
    have o810 : oE [10] s8 s10 := o9.trans o10
    have t10 := S10.2.1.t (j := i + 3) hi3
    rw [xqv_v, S10.2.2.2.2.2.1, nI_clamp (n := i + 3) (by omega), t10.2.2.2]
    -- the name of no indexed operator
    have w258 : (∀ o, tR c l (i + 3) = some o → ¬ (10 ≤ o ∧ o ≤ 12)) → w_VectorSolverModel_opening_258 Q s10 := fun no3 => by
      unfold w_VectorSolverModel_opening_258 w_VectorSolverModel_opening_259
      refine r_mustG H S10 rfl (fun s' f o' => ?_)
      rw [xqi_i]
      refine n_259 f ((o'.at (by decide)).trans hp10) h64 (fun s f' => fe _ s ?_ (RFl.e o810 (by decide) f'))
      cases q : tR c l (i + 3) with
      | none => rfl
      | some o =>
        dsimp only
        rw [if_neg (no3 o q)]
    -- an indexed operator
    have w259 : ∀ o, tR c l (i + 3) = some o → 10 ≤ o ∧ o ≤ 12 → w_VectorSolverModel_opening_259 Q 1 s10 := fun o ho h12 => by
      rw [ho] at fe kg
      dsimp only at fe kg
      rw [if_pos h12] at fe kg
      have k3 := (tok_R ho).1
      have b3 := H.lt (i := i + 3) hi3 (by omega)
      have eo : rix (some o) = nI (opr o) := by
        have : ∀ o, o < 13 → 10 ≤ o → rix (some o) = nI (opr o) := by decide +kernel
        exact this o (by omega) h12.1
      have ov := opr_v (op := o) h12.1 (by omega)
      rw [if_pos (by omega)] at ov
      unfold w_VectorSolverModel_opening_259
      refine r_mustT H S10 (by decide) ?_
      rw [xqi_i]
      show g259 Q s10
      unfold g259
      rw [S10.2.2.2.2.2.1, nI_clamp (n := i + 3) (by omega), hp10, cp, t10.2.2.2, ho, eo]
      refine ⟨v3, vp, fun s21 e21 => ?_⟩
      have O21 : oO p s8 s21 := (oE.O o810).trans (by rw [e21]; exact oO.pi (by decide))
      have S21 : RS c l N B (i + 3) s21 := by rw [e21]; exact S10.o (by decide)
      have f72 : xi s21 72 p = nI (opr o) := by rw [e21, xi_pi, if_pos ⟨rfl, rfl⟩]
      have k21 : ∀ a, a ≠ 72 → 70 ≤ a → xi s21 a p = xi s8 a p := fun a q q1 => by rw [e21, xi_pi, if_neg (by omega)]; exact o810.ne (by omega)
      clear e21
      have hp21 : xi s21 50 29 = nI p := (O21.1 50 29 (by omega) (by omega)).trans hp8
      refine r_numG (lo := 0) (hi := 2147483647) H (by decide) (by decide) (S21.n b3) (fun e s' he f o' => ?_) (fun v s22 h22 S22 o22 => ?_)
      · rw [xqi_i, hp21, cp]
        refine ⟨vp, fun s24 e24 => ?_⟩
        have f' : RFl B e s8 s24 := RFl.pre O21.S (bex.refl _) (by rw [e24]; exact f.pi (.inl (by decide)))
        exact n_259n f' (by rw [e24, xi_pi, if_neg (by omega)]; exact (o'.at (by decide)).trans hp21) h64 (fun s f' => fe _ s (eb_er he) f')
      have h22 : pN c l (i + 4) 0 2147483647 = .ok v := h22
      have S22 : RS c l N B (i + 4) s22 := S22
      rw [eb_ok h22] at fe kg
      obtain ⟨k4, _, v31, _⟩ := pN_i h22
      have b4 := H.lt (i := i + 4) S22.2.2.2.2.2.2.1 (by omega)
      rw [xqi_i, hp21, cp]
      refine ⟨vp, fun s24 e24 => ?_⟩
      have O22 : oO p s8 s22 := O21.trans (oE.O o22)
      have O24 : oO p s8 s24 := O22.trans (by rw [e24]; exact oO.pi (by decide))
      have S24 : RS c l N B (i + 4) s24 := by rw [e24]; exact S22.o (by decide)
      have g73 : xi s24 73 p = nI v := by rw [e24, xi_pi, if_pos ⟨rfl, rfl⟩]
      have gk : ∀ a, a ≠ 73 → 70 ≤ a → xi s24 a p = xi s21 a p := fun a q q2 => by rw [e24, xi_pi, if_neg (by omega)]; exact o22.ne (by omega)
      have g72 : xi s24 72 p = nI (opr o) := (gk 72 (by decide) (by decide)).trans f72
      clear e24
      have hp24 : xi s24 50 29 = nI p := (O24.1 50 29 (by omega) (by omega)).trans hp8
      -- what stands of the pile's place
      have w339 : ∀ (lo j : Nat) s, (∀ (σ' : xS), pX c l (j + 1) 1 = .ok () → RS c l N B (j + 1) σ' → OPD p (tF c l i) (o, v, lo, j + 1) σ σ' → w_VectorSolverModel_opening_346 Q σ') → (∀ e s', pX c l (j + 1) 1 = .error e → RFl B e s8 s' → Q (.inl (some (.int 0))) s') → RS c l N B j s → j < N → oO p s8 s → (∀ a, 70 ≤ a → a ≤ 75 → xi s a p = xi s24 a p) → w_VectorSolverModel_opening_339 Q (nI p) (nI lo) s := fun lo j s kk kg2 Ss hjN Os hsame => by
        unfold w_VectorSolverModel_opening_339
        rw [cp]
        refine ⟨vp, fun s25 e25 => ?_⟩
        have O25 : oO p s8 s25 := Os.trans (by rw [e25]; exact oO.pi (by decide))
        have S25 : RS c l N B j s25 := by rw [e25]; exact Ss.o (by decide)
        have q74 : xi s25 74 p = nI lo := by rw [e25, xi_pi, if_pos ⟨rfl, rfl⟩]
        have qk : ∀ a, a ≠ 74 → 70 ≤ a → a ≤ 75 → xi s25 a p = xi s24 a p := fun a q q1 q2 => by rw [e25, xi_pi, if_neg (by omega)]; exact hsame a q1 q2
        clear e25
        refine r_need (k0 := 1) H (by decide) (S25.n hjN) (fun e s' he f => ?_) (fun s26 h26 S26 o26 => ?_)
        · rw [xqi_i]
          exact n_346 (RFl.pre O25.S (bex.refl _) f) (fun s f' => kg2 e s he f')
        · rw [xqi_i]
          have O26 : oO p σ s26 := O28.trans (O25.trans (oE.O o26))
          have k26 : ∀ a, a ≠ 50 → xi s26 a p = xi s25 a p := fun a q => o26.ne q
          refine kk s26 h26 S26 ⟨⟨?_, ?_, ?_, ?_, ?_, ?_⟩, O26⟩
          · rw [k26 70 (by decide), qk 70 (by decide) (by decide) (by decide), gk 70 (by decide) (by decide), k21 70 (by decide) (by decide)]; exact d70
          · rw [k26 71 (by decide), qk 71 (by decide) (by decide) (by decide), gk 71 (by decide) (by decide), k21 71 (by decide) (by decide)]; exact d71
          · rw [k26 72 (by decide), qk 72 (by decide) (by decide) (by decide)]; exact g72
          · rw [k26 73 (by decide), qk 73 (by decide) (by decide) (by decide)]; exact g73
          · rw [k26 74 (by decide)]; exact q74
          · rw [k26 75 (by decide), qk 75 (by decide) (by decide) (by decide), gk 75 (by decide) (by decide), k21 75 (by decide) (by decide)]; exact d75
      unfold g259n
      rw [hp24, cp, g72, show (36 : Int32) = nI 36 from rfl, nI_eq (by omega) (by decide), g73, jL_i2l (by omega)]
      refine ⟨vp, fun y => ?_, fun y => ⟨vp, ?_⟩⟩
      · rw [if_neg (by omega)] at fe kg
        exact w339 0 (i + 4) s24 (fun σ' hx S' D' => kg _ σ' (eb_ok hx) S' D') (fun e s' he f => fe e s' (eb_er he) f) S24 b4 O24 (fun a _ _ => rfl)
      · rw [if_pos (by omega)] at fe kg
        refine r_num (lo := 0) (hi := v) H (by decide) (by omega) (S24.n b4) (fun e s' he f => ?_) (fun lo s28 h28 S28 o28 => ?_)
        · rw [xqi_i]
          exact n_339 (RFl.pre O24.S (bex.refl _) f) vp (fun s f' => fe _ s (eb_er he) f')
        · rw [xqi_i]
          have h28 : pN c l (i + 5) 0 v = .ok lo := h28
          have S28 : RS c l N B (i + 5) s28 := S28
          rw [eb_ok h28] at fe kg
          obtain ⟨k5, _⟩ := pN_i h28
          have b5 := H.lt (i := i + 5) S28.2.2.2.2.2.2.1 (by omega)
          exact w339 lo (i + 5) s28 (fun σ' hx S' D' => kg _ σ' (eb_ok hx) S' D') (fun e s' he f => fe e s' (eb_er he) f) S28 b5 (O24.trans (oE.O o28)) (fun a _ _ => o28.ne (by omega))
    have cmp : ∀ r : Option Nat, (∀ m, r = some m → m < 47) → ((rix r < 36) ∨ (39 ≤ rix r) ↔ ∀ o, r = some o → ¬ (10 ≤ o ∧ o ≤ 12)) := by
      have k1 : ∀ m, m < 47 → (((nI (ridx m) : Int32) < 36 ∨ (39 : Int32) ≤ nI (ridx m)) ↔ ¬ (10 ≤ m ∧ m ≤ 12)) := by decide +kernel
      intro r hr
      cases r with
      | none => exact ⟨fun _ o q => (by cases q), fun _ => .inl (by decide)⟩
      | some m => exact ⟨fun z o q => by cases q; exact (k1 m (hr m rfl)).mp z, fun z => (k1 m (hr m rfl)).mpr (z m rfl)⟩
    have cm := cmp (tR c l (i + 3)) (fun m h => tR_lt h)
    refine ⟨v3, fun y => w258 (cm.mp (.inl y)), fun y => ⟨v3, fun x => w258 (cm.mp (.inr x)), fun x => ?_⟩⟩
    cases q : tR c l (i + 3) with
    | none => exact absurd (cm.mpr (fun o q' => by rw [q] at q'; cases q')) (fun w => by rcases w with w | w; exact y w; exact x w)
    | some o =>
      refine w259 o q ?_
      apply Classical.byContradiction
      intro w
      exact absurd (cm.mpr (fun o' q' => by rw [q] at q'; cases q'; exact w)) (fun w => by rcases w with w | w; exact y w; exact x w)
  rw [S8.2.2.2.2.2.1, nI_clamp (n := i + 1) (by omega), t8.2.2.2, hp8, cp]
  have cmp : ∀ r : Option Nat, (∀ m, r = some m → m < 47) → ((rix r < 2) ∨ (36 ≤ rix r) ↔ ∀ o, r = some o → ¬ 13 ≤ o) := by
    have k1 : ∀ m, m < 47 → (((nI (ridx m) : Int32) < 2 ∨ (36 : Int32) ≤ nI (ridx m)) ↔ ¬ 13 ≤ m) := by decide +kernel
    intro r hr
    cases r with
    | none => exact ⟨fun _ o q => (by cases q), fun _ => .inl (by decide)⟩
    | some m => exact ⟨fun z o q => by cases q; exact (k1 m (hr m rfl)).mp z, fun z => (k1 m (hr m rfl)).mpr (z m rfl)⟩
  have cm := cmp (tR c l (i + 1)) (fun m h => tR_lt h)
  refine ⟨vj, fun y => w187 (cm.mp (.inl y)), fun y => ⟨vj, fun x => w187 (cm.mp (.inr x)), fun x => ⟨vj, vp, fun s30 e30 => ?_⟩⟩⟩
  cases q : tR c l (i + 1) with
  | none => exact absurd (cm.mpr (fun o q' => by rw [q] at q'; cases q')) (fun w => by rcases w with w | w; exact y w; exact x w)
  | some o =>
    have o13 : 13 ≤ o := by
      apply Classical.byContradiction
      intro w
      exact absurd (cm.mpr (fun o' q' => by rw [q] at q'; cases q'; exact w)) (fun w => by rcases w with w | w; exact y w; exact x w)
    have k5 := (tok_R q).1
    have eo : rix (some o) = nI (opr o) := by
      have : ∀ o, o < 47 → 13 ≤ o → rix (some o) = nI (opr o) := by decide +kernel
      exact this o (tR_lt q) o13
    have u : pOp c l (i + 1) = .ok (o, 0, 0, i + 1) := by
      unfold pOp
      rw [if_neg (by omega), q]
      dsimp only
      rw [if_pos o13]
    rw [q, eo] at e30
    have O30 : oO p σ s30 := O28.trans (by rw [e30]; exact oO.pi (by decide))
    refine kg _ s30 u (by rw [e30]; exact S8.o (by decide)) ⟨⟨?_, ?_, ?_, ?_, ?_, ?_⟩, O30⟩
    · rw [e30, xi_pi, if_neg (by omega)]; exact d70
    · rw [e30, xi_pi, if_neg (by omega)]; exact d71
    · rw [e30, xi_pi, if_pos ⟨rfl, rfl⟩]
    · rw [e30, xi_pi, if_neg (by omega)]; exact d73
    · rw [e30, xi_pi, if_neg (by omega)]; exact d74
    · rw [e30, xi_pi, if_neg (by omega)]; exact d75
end ROP
