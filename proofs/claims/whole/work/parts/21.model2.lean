def w_VectorSolverModel_want_21 (Q : xO → xS → Prop) (σ : xS) : Prop :=
  ((¬ (xi σ 50 4) = 0 → Q (.inl (some (.int 0))) σ) ∧ ((xi σ 50 4) = 0 → Q (.inl (some (.int 1))) σ))
def wp_VectorSolverModel_want (Q : xO → xS → Prop) (σ : xS) (a1 : Int32) (a2 : Int32) (a3 : Int32) : Prop :=
  ((¬ (xi σ 50 4) = 0 → w_VectorSolverModel_want_21 Q  σ) ∧ ((xi σ 50 4) = 0 → ((¬ a1 = 0 → w_VectorSolverModel_want_21 Q  σ) ∧ (a1 = 0 → (∀ s1 : xS, s1 = xpi σ 50 4 a2 → (∀ s2 : xS, s2 = xpi s1 50 5 a3 → w_VectorSolverModel_want_21 Q  s2))))))
set_option maxRecDepth 20000 in
theorem sw_VectorSolverModel_want_21 {γ : xG1} {d b0 : Nat} {Q : xO → xS → Prop} {σ : xS} (h : w_VectorSolverModel_want_21 Q  σ) : xJ (SHP, γ) Y_VectorSolverModel_want (d + 0) b0 21 [(0, .ref 50)] [] σ Q := by
  refine xJ.aload_n (o_VectorSolverModel_want 11 rfl) rfl ?_
  refine xJ.getfield (o_VectorSolverModel_want 12 rfl) f_VectorSolverModel_166 rfl rfl ?_
  refine xJ.if_ne (tgt := 32) (o_VectorSolverModel_want 13 rfl) (by decide) (fun z => ?_) (fun z => ?_)
  · replace h := h.1 z
    refine xJ.iconst (v := 0) (o_VectorSolverModel_want 16 rfl) (by decide) ?_
    exact xJ.zreturn (o_VectorSolverModel_want 17 rfl) rfl (Or.inl rfl) h
  · replace h := h.2 z
    refine xJ.iconst (v := 1) (o_VectorSolverModel_want 14 rfl) (by decide) ?_
    refine xJ.goto (tgt := 33) (o_VectorSolverModel_want 15 rfl) (by decide) ?_
    exact xJ.zreturn (o_VectorSolverModel_want 17 rfl) rfl (Or.inr rfl) h
set_option maxRecDepth 20000 in
theorem s_VectorSolverModel_want {γ : xG1} {d : Nat} {Q : xO → xS → Prop} {σ : xS} {a1 : Int32} {a2 : Int32} {a3 : Int32} (h : wp_VectorSolverModel_want Q σ a1 a2 a3) : xM (SHP, γ) Y_VectorSolverModel_want (d + 0) [.ref 50, .int a1, .int a2, .int a3] σ Q := by
  refine xM.of (by decide) (Nat.le_of_ble_eq_true rfl) ?_
  refine xJ.aload_n (o_VectorSolverModel_want 0 rfl) rfl ?_
  refine xJ.getfield (o_VectorSolverModel_want 1 rfl) f_VectorSolverModel_166 rfl rfl ?_
  refine xJ.if_ne (tgt := 21) (o_VectorSolverModel_want 2 rfl) (by decide) (fun z => ?_) (fun z => ?_)
  · replace h := h.1 z
    exact xJ.lvs (by exact ⟨rfl, trivial⟩) (sw_VectorSolverModel_want_21 h)
  · replace h := h.2 z
    refine xJ.iload_n (o_VectorSolverModel_want 3 rfl) rfl ?_
    refine xJ.if_ne (tgt := 21) (o_VectorSolverModel_want 4 rfl) (by decide) (fun z => ?_) (fun z => ?_)
    · replace h := h.1 z
      exact xJ.lvs (by exact ⟨rfl, trivial⟩) (sw_VectorSolverModel_want_21 h)
    · replace h := h.2 z
      refine xJ.aload_n (o_VectorSolverModel_want 5 rfl) rfl ?_
      refine xJ.iload_n (o_VectorSolverModel_want 6 rfl) rfl ?_
      refine xJ.putI (o_VectorSolverModel_want 7 rfl) f_VectorSolverModel_166 rfl rfl rfl ?_
      replace h := h _ rfl
      refine xJ.aload_n (o_VectorSolverModel_want 8 rfl) rfl ?_
      refine xJ.iload_n (o_VectorSolverModel_want 9 rfl) rfl ?_
      refine xJ.putI (o_VectorSolverModel_want 10 rfl) f_VectorSolverModel_20 rfl rfl rfl ?_
      replace h := h _ rfl
      exact xJ.lvs (by exact ⟨rfl, trivial⟩) (sw_VectorSolverModel_want_21 h)
def w_VectorSolverModel_next_35 (Q : xO → xS → Prop) (t1 : Int32) (σ : xS) : Prop :=
  (vp_in (xi σ 50 10) 65537 ∧ (vp_in (xi σ 50 10) 65537 ∧ wp_VectorSolverModel_want (xqi (fun r3 u2 => Q (.inl none) u2) (fun n u => Q (.inr n) u)) σ t1 (-(xi σ 52 (xi σ 50 10).toNatClampNeg)) (xi σ 53 (xi σ 50 10).toNatClampNeg)))
def wp_VectorSolverModel_next (Q : xO → xS → Prop) (σ : xS)  : Prop :=
  ((¬ (xi σ 50 4) = 0 → Q (.inl none) σ) ∧ ((xi σ 50 4) = 0 → (∀ s1 : xS, s1 = xpi σ 50 10 ((xi σ 50 10) + 1) → (vp_in (xi s1 50 10) 65537 ∧ (((xi s1 52 (xi s1 50 10).toNatClampNeg) < 0 → w_VectorSolverModel_next_35 Q 0 s1) ∧ (¬ (xi s1 52 (xi s1 50 10).toNatClampNeg) < 0 → w_VectorSolverModel_next_35 Q 1 s1))))))
set_option maxRecDepth 20000 in
theorem sw_VectorSolverModel_next_35 {γ : xG1} {d b0 : Nat} {Q : xO → xS → Prop} {t1 : Int32} {σ : xS} (h : w_VectorSolverModel_next_35 Q t1 σ) : xJ (SHP, γ) Y_VectorSolverModel_next (d + 1) b0 35 [(0, .ref 50)] [.int t1, .ref 50] σ Q := by
  refine xJ.aload_n (o_VectorSolverModel_next 19 rfl) rfl ?_
  refine xJ.getfield (o_VectorSolverModel_next 20 rfl) f_VectorSolverModel_25 rfl rfl ?_
  refine xJ.aload_n (o_VectorSolverModel_next 21 rfl) rfl ?_
  refine xJ.getfield (o_VectorSolverModel_next 22 rfl) f_VectorSolverModel_169 rfl rfl ?_
  refine xJ.baload (o_VectorSolverModel_next 23 rfl) rfl h.1 ?_
  replace h := h.2
  refine xJ.ineg (o_VectorSolverModel_next 24 rfl) ?_
  refine xJ.aload_n (o_VectorSolverModel_next 25 rfl) rfl ?_
  refine xJ.getfield (o_VectorSolverModel_next 26 rfl) f_VectorSolverModel_28 rfl rfl ?_
  refine xJ.aload_n (o_VectorSolverModel_next 27 rfl) rfl ?_
  refine xJ.getfield (o_VectorSolverModel_next 28 rfl) f_VectorSolverModel_169 rfl rfl ?_
  refine xJ.iaload (o_VectorSolverModel_next 29 rfl) rfl h.1 ?_
  replace h := h.2
  refine xJ.callV (Y' := Y_VectorSolverModel_want) (o_VectorSolverModel_next 30 rfl) m_VectorSolverModel_172 y_VectorSolverModel_want im_VectorSolverModel_want se_VectorSolverModel_want rfl rfl (s_VectorSolverModel_want h) rfl rfl (Nat.le_of_ble_eq_true rfl) (fun _ hx => by cases hx) (fun v u q => ?_) (fun n u q => q)
  obtain ⟨r, rfl, h⟩ := xqi_get q
  refine xJ.istore_n (o_VectorSolverModel_next 31 rfl) (by decide) ?_
  exact xJ.return_ (o_VectorSolverModel_next 32 rfl) rfl h
set_option maxRecDepth 20000 in
theorem s_VectorSolverModel_next {γ : xG1} {d : Nat} {Q : xO → xS → Prop} {σ : xS}  (h : wp_VectorSolverModel_next Q σ ) : xM (SHP, γ) Y_VectorSolverModel_next (d + 1) [.ref 50] σ Q := by
  refine xM.of (by decide) (Nat.le_of_ble_eq_true rfl) ?_
  refine xJ.aload_n (o_VectorSolverModel_next 0 rfl) rfl ?_
  refine xJ.getfield (o_VectorSolverModel_next 1 rfl) f_VectorSolverModel_166 rfl rfl ?_
  refine xJ.if_ne (tgt := 58) (o_VectorSolverModel_next 2 rfl) (by decide) (fun z => ?_) (fun z => ?_)
  · replace h := h.1 z
    exact xJ.return_ (o_VectorSolverModel_next 32 rfl) rfl h
  · replace h := h.2 z
    refine xJ.aload_n (o_VectorSolverModel_next 3 rfl) rfl ?_
    refine xJ.dup (o_VectorSolverModel_next 4 rfl) rfl ?_
    refine xJ.getfield (o_VectorSolverModel_next 5 rfl) f_VectorSolverModel_169 rfl rfl ?_
    refine xJ.iconst (v := 1) (o_VectorSolverModel_next 6 rfl) (by decide) ?_
    refine xJ.iadd (o_VectorSolverModel_next 7 rfl) ?_
    refine xJ.putI (o_VectorSolverModel_next 8 rfl) f_VectorSolverModel_169 rfl rfl rfl ?_
    replace h := h _ rfl
    refine xJ.aload_n (o_VectorSolverModel_next 9 rfl) rfl ?_
    refine xJ.aload_n (o_VectorSolverModel_next 10 rfl) rfl ?_
    refine xJ.getfield (o_VectorSolverModel_next 11 rfl) f_VectorSolverModel_25 rfl rfl ?_
    refine xJ.aload_n (o_VectorSolverModel_next 12 rfl) rfl ?_
    refine xJ.getfield (o_VectorSolverModel_next 13 rfl) f_VectorSolverModel_169 rfl rfl ?_
    refine xJ.baload (o_VectorSolverModel_next 14 rfl) rfl h.1 ?_
    replace h := h.2
    refine xJ.if_lt (tgt := 34) (o_VectorSolverModel_next 15 rfl) (by decide) (fun z => ?_) (fun z => ?_)
    · replace h := h.1 z
      refine xJ.iconst (v := 0) (o_VectorSolverModel_next 18 rfl) (by decide) ?_
      exact xJ.lvs (by exact ⟨rfl, trivial⟩) (sw_VectorSolverModel_next_35 h)
    · replace h := h.2 z
      refine xJ.iconst (v := 1) (o_VectorSolverModel_next 16 rfl) (by decide) ?_
      refine xJ.goto (tgt := 35) (o_VectorSolverModel_next 17 rfl) (by decide) ?_
      exact xJ.lvs (by exact ⟨rfl, trivial⟩) (sw_VectorSolverModel_next_35 h)
def w_VectorSolverModel_must_19 (Q : xO → xS → Prop) (t1 : Int32) (t2 : Int32) (σ : xS) : Prop :=
  (vp_in (xi σ 50 10) 65537 ∧ wp_VectorSolverModel_want (xqi (fun r2 u1 => ((r2 = 0 ∨ r2 = 1) ∧ Q (.inl (some (.int r2))) u1)) (fun n u => Q (.inr n) u)) σ t1 t2 (xi σ 53 (xi σ 50 10).toNatClampNeg))
def wp_VectorSolverModel_must (Q : xO → xS → Prop) (σ : xS) (a1 : Int32) : Prop :=
  (vp_in (xi σ 50 10) 65537 ∧ ((¬ (xi σ 52 (xi σ 50 10).toNatClampNeg) = 0 → w_VectorSolverModel_must_19 Q a1 4 σ) ∧ ((xi σ 52 (xi σ 50 10).toNatClampNeg) = 0 → w_VectorSolverModel_must_19 Q a1 3 σ)))
set_option maxRecDepth 20000 in
theorem sw_VectorSolverModel_must_19 {γ : xG1} {d b0 : Nat} {Q : xO → xS → Prop} {t1 : Int32} {t2 : Int32} {σ : xS} (h : w_VectorSolverModel_must_19 Q t1 t2 σ) : xJ (SHP, γ) Y_VectorSolverModel_must (d + 1) b0 19 [(0, .ref 50)] [.int t2, .int t1, .ref 50] σ Q := by
  refine xJ.aload_n (o_VectorSolverModel_must 11 rfl) rfl ?_
  refine xJ.getfield (o_VectorSolverModel_must 12 rfl) f_VectorSolverModel_28 rfl rfl ?_
  refine xJ.aload_n (o_VectorSolverModel_must 13 rfl) rfl ?_
  refine xJ.getfield (o_VectorSolverModel_must 14 rfl) f_VectorSolverModel_169 rfl rfl ?_
  refine xJ.iaload (o_VectorSolverModel_must 15 rfl) rfl h.1 ?_
  replace h := h.2
  refine xJ.callV (Y' := Y_VectorSolverModel_want) (o_VectorSolverModel_must 16 rfl) m_VectorSolverModel_172 y_VectorSolverModel_want im_VectorSolverModel_want se_VectorSolverModel_want rfl rfl (s_VectorSolverModel_want h) rfl rfl (Nat.le_of_ble_eq_true rfl) (fun _ hx => by cases hx) (fun v u q => ?_) (fun n u q => q)
  obtain ⟨r, rfl, h⟩ := xqi_get q
  exact xJ.zreturn (o_VectorSolverModel_must 17 rfl) rfl h.1 h.2
set_option maxRecDepth 20000 in
theorem s_VectorSolverModel_must {γ : xG1} {d : Nat} {Q : xO → xS → Prop} {σ : xS} {a1 : Int32} (h : wp_VectorSolverModel_must Q σ a1) : xM (SHP, γ) Y_VectorSolverModel_must (d + 1) [.ref 50, .int a1] σ Q := by
  refine xM.of (by decide) (Nat.le_of_ble_eq_true rfl) ?_
  refine xJ.aload_n (o_VectorSolverModel_must 0 rfl) rfl ?_
  refine xJ.iload_n (o_VectorSolverModel_must 1 rfl) rfl ?_
  refine xJ.aload_n (o_VectorSolverModel_must 2 rfl) rfl ?_
  refine xJ.getfield (o_VectorSolverModel_must 3 rfl) f_VectorSolverModel_25 rfl rfl ?_
  refine xJ.aload_n (o_VectorSolverModel_must 4 rfl) rfl ?_
  refine xJ.getfield (o_VectorSolverModel_must 5 rfl) f_VectorSolverModel_169 rfl rfl ?_
  refine xJ.baload (o_VectorSolverModel_must 6 rfl) rfl h.1 ?_
  replace h := h.2
  refine xJ.if_ne (tgt := 18) (o_VectorSolverModel_must 7 rfl) (by decide) (fun z => ?_) (fun z => ?_)
  · replace h := h.1 z
    refine xJ.iconst (v := 4) (o_VectorSolverModel_must 10 rfl) (by decide) ?_
    exact xJ.lvs (by exact ⟨rfl, trivial⟩) (sw_VectorSolverModel_must_19 h)
  · replace h := h.2 z
    refine xJ.iconst (v := 3) (o_VectorSolverModel_must 8 rfl) (by decide) ?_
    refine xJ.goto (tgt := 19) (o_VectorSolverModel_must 9 rfl) (by decide) ?_
    exact xJ.lvs (by exact ⟨rfl, trivial⟩) (sw_VectorSolverModel_must_19 h)
def w_VectorSolverModel_need_23 (Q : xO → xS → Prop) (t1 : Int32) (σ : xS) : Prop :=
  wp_VectorSolverModel_must (xqi (fun r4 u3 => ((r4 = 0 ∨ r4 = 1) ∧ Q (.inl (some (.int r4))) u3)) (fun n u => Q (.inr n) u)) σ t1
def wp_VectorSolverModel_need (Q : xO → xS → Prop) (σ : xS) (a1 : Int32) : Prop :=
  wp_VectorSolverModel_next (xqv (fun u1 => (vp_in (xi u1 50 10) 65537 ∧ ((¬ (xi u1 52 (xi u1 50 10).toNatClampNeg) = a1 → w_VectorSolverModel_need_23 Q 0 u1) ∧ ((xi u1 52 (xi u1 50 10).toNatClampNeg) = a1 → w_VectorSolverModel_need_23 Q 1 u1)))) (fun n u => Q (.inr n) u)) σ 
set_option maxRecDepth 20000 in
theorem sw_VectorSolverModel_need_23 {γ : xG1} {d b0 : Nat} {Q : xO → xS → Prop} {t1 : Int32} {σ : xS} (h : w_VectorSolverModel_need_23 Q t1 σ) : xJ (SHP, γ) Y_VectorSolverModel_need (d + 2) b0 23 [] [.int t1, .ref 50] σ Q := by
  refine xJ.callV (Y' := Y_VectorSolverModel_must) (o_VectorSolverModel_need 13 rfl) m_VectorSolverModel_179 y_VectorSolverModel_must im_VectorSolverModel_must se_VectorSolverModel_must rfl rfl (s_VectorSolverModel_must h) rfl rfl (Nat.le_of_ble_eq_true rfl) (fun _ hx => by cases hx) (fun v u q => ?_) (fun n u q => q)
  obtain ⟨r, rfl, h⟩ := xqi_get q
  exact xJ.zreturn (o_VectorSolverModel_need 14 rfl) rfl h.1 h.2
set_option maxRecDepth 20000 in
theorem s_VectorSolverModel_need {γ : xG1} {d : Nat} {Q : xO → xS → Prop} {σ : xS} {a1 : Int32} (h : wp_VectorSolverModel_need Q σ a1) : xM (SHP, γ) Y_VectorSolverModel_need (d + 2) [.ref 50, .int a1] σ Q := by
  refine xM.of (by decide) (Nat.le_of_ble_eq_true rfl) ?_
  refine xJ.aload_n (o_VectorSolverModel_need 0 rfl) rfl ?_
  refine xJ.callV (Y' := Y_VectorSolverModel_next) (o_VectorSolverModel_need 1 rfl) m_VectorSolverModel_176 y_VectorSolverModel_next im_VectorSolverModel_next se_VectorSolverModel_next rfl rfl (s_VectorSolverModel_next h) rfl rfl (Nat.le_of_ble_eq_true rfl) (fun _ hx => by cases hx) (fun v u q => ?_) (fun n u q => q)
  obtain ⟨rfl, h⟩ := xqv_get q
  refine xJ.aload_n (o_VectorSolverModel_need 2 rfl) rfl ?_
  refine xJ.aload_n (o_VectorSolverModel_need 3 rfl) rfl ?_
  refine xJ.getfield (o_VectorSolverModel_need 4 rfl) f_VectorSolverModel_25 rfl rfl ?_
  refine xJ.aload_n (o_VectorSolverModel_need 5 rfl) rfl ?_
  refine xJ.getfield (o_VectorSolverModel_need 6 rfl) f_VectorSolverModel_169 rfl rfl ?_
  refine xJ.baload (o_VectorSolverModel_need 7 rfl) rfl h.1 ?_
  replace h := h.2
  refine xJ.iload_n (o_VectorSolverModel_need 8 rfl) rfl ?_
  refine xJ.icmp_ne (tgt := 22) (o_VectorSolverModel_need 9 rfl) (by decide) (fun z => ?_) (fun z => ?_)
  · replace h := h.1 z
    refine xJ.iconst (v := 0) (o_VectorSolverModel_need 12 rfl) (by decide) ?_
    exact xJ.lvs (by exact trivial) (sw_VectorSolverModel_need_23 h)
  · replace h := h.2 z
    refine xJ.iconst (v := 1) (o_VectorSolverModel_need 10 rfl) (by decide) ?_
    refine xJ.goto (tgt := 23) (o_VectorSolverModel_need 11 rfl) (by decide) ?_
    exact xJ.lvs (by exact trivial) (sw_VectorSolverModel_need_23 h)
def w_VectorSolverModel_make_44 (Q : xO → xS → Prop) (a1 : Int32) (a2 : Int32) (a3 : Int32) (a4 : Int32) (a5 : Int32) (t1 : Int32) (σ : xS) : Prop :=
  wp_VectorSolverModel_want (xqi (fun r4 u3 => ((¬ r4 = 0 → (∀ s5 : xS, s5 = xpi u3 50 44 ((xi u3 50 44) + a4) → (vp_in (xi s5 50 11) 2000 ∧ (∀ s6 : xS, s6 = xpi s5 56 (xi s5 50 11).toNatClampNeg a1 → (vp_in (xi s6 50 11) 2000 ∧ (∀ s7 : xS, s7 = xpi s6 57 (xi s6 50 11).toNatClampNeg a2 → (vp_in (xi s7 50 11) 2000 ∧ (∀ s8 : xS, s8 = xpi s7 58 (xi s7 50 11).toNatClampNeg a3 → (vp_in (xi s8 50 11) 2000 ∧ (∀ s9 : xS, s9 = xpi s8 59 (xi s8 50 11).toNatClampNeg (xi s8 50 21) → (vp_in (xi s9 50 11) 2000 ∧ (∀ s10 : xS, s10 = xpi s9 60 (xi s9 50 11).toNatClampNeg 0 → (vp_in (xi s10 50 11) 2000 ∧ (∀ s11 : xS, s11 = xpi s10 61 (xi s10 50 11).toNatClampNeg 0 → (vp_in (xi s11 50 11) 2000 ∧ (∀ s12 : xS, s12 = xpi s11 62 (xi s11 50 11).toNatClampNeg 0 → (vp_in (xi s12 50 11) 2000 ∧ (∀ s13 : xS, s13 = xpi s12 63 (xi s12 50 11).toNatClampNeg (-1) → (vp_in (xi s13 50 11) 2000 ∧ (∀ s14 : xS, s14 = xpl s13 64 (xi s13 50 11).toNatClampNeg 0 → (∀ s15 : xS, s15 = xpi s14 50 11 ((xi s14 50 11) + 1) → Q (.inl (some (.int ((xi s15 50 11) - 1)))) s15))))))))))))))))))))) ∧ (r4 = 0 → Q (.inl (some (.int 0))) u3))) (fun n u => Q (.inr n) u)) σ t1 12 a5
def w_VectorSolverModel_make_16 (Q : xO → xS → Prop) (a1 : Int32) (a2 : Int32) (a3 : Int32) (a4 : Int32) (a5 : Int32) (t1 : Int32) (σ : xS) : Prop :=
  wp_VectorSolverModel_want (xqi (fun r2 u1 => ((r2 = 0 → Q (.inl (some (.int 0))) u1) ∧ (¬ r2 = 0 → ((100000 < ((xi u1 50 44) + a4) → w_VectorSolverModel_make_44 Q a1 a2 a3 a4 a5 0 u1) ∧ (¬ 100000 < ((xi u1 50 44) + a4) → w_VectorSolverModel_make_44 Q a1 a2 a3 a4 a5 1 u1))))) (fun n u => Q (.inr n) u)) σ t1 11 a5
def wp_VectorSolverModel_make (Q : xO → xS → Prop) (σ : xS) (a1 : Int32) (a2 : Int32) (a3 : Int32) (a4 : Int32) (a5 : Int32) : Prop :=
  ((2000 ≤ (xi σ 50 11) → w_VectorSolverModel_make_16 Q a1 a2 a3 a4 a5 0 σ) ∧ (¬ 2000 ≤ (xi σ 50 11) → w_VectorSolverModel_make_16 Q a1 a2 a3 a4 a5 1 σ))
set_option maxRecDepth 20000 in
theorem sw_VectorSolverModel_make_44 {γ : xG1} {d b0 : Nat} {Q : xO → xS → Prop} {a1 : Int32} {a2 : Int32} {a3 : Int32} {a4 : Int32} {a5 : Int32} {t1 : Int32} {σ : xS} (h : w_VectorSolverModel_make_44 Q a1 a2 a3 a4 a5 t1 σ) : xJ (SHP, γ) Y_VectorSolverModel_make (d + 1) b0 44 [(0, .ref 50), (1, .int a1), (2, .int a2), (3, .int a3), (4, .int a4), (5, .int a5)] [.int t1, .ref 50] σ Q := by
  refine xJ.bipush (v := 12) (o_VectorSolverModel_make 22 rfl) (by decide) ?_
  refine xJ.iload (o_VectorSolverModel_make 23 rfl) rfl ?_
  refine xJ.callV (Y' := Y_VectorSolverModel_want) (o_VectorSolverModel_make 24 rfl) m_VectorSolverModel_172 y_VectorSolverModel_want im_VectorSolverModel_want se_VectorSolverModel_want rfl rfl (s_VectorSolverModel_want h) rfl rfl (Nat.le_of_ble_eq_true rfl) (fun _ hx => by cases hx) (fun v u q => ?_) (fun n u q => q)
  obtain ⟨r, rfl, h⟩ := xqi_get q
  refine xJ.if_ne (tgt := 56) (o_VectorSolverModel_make 25 rfl) (by decide) (fun z => ?_) (fun z => ?_)
  · replace h := h.1 z
    refine xJ.aload_n (o_VectorSolverModel_make 28 rfl) rfl ?_
    refine xJ.dup (o_VectorSolverModel_make 29 rfl) rfl ?_
    refine xJ.getfield (o_VectorSolverModel_make 30 rfl) f_VectorSolverModel_223 rfl rfl ?_
    refine xJ.iload (o_VectorSolverModel_make 31 rfl) rfl ?_
    refine xJ.iadd (o_VectorSolverModel_make 32 rfl) ?_
    refine xJ.putI (o_VectorSolverModel_make 33 rfl) f_VectorSolverModel_223 rfl rfl rfl ?_
    replace h := h _ rfl
    refine xJ.aload_n (o_VectorSolverModel_make 34 rfl) rfl ?_
    refine xJ.getfield (o_VectorSolverModel_make 35 rfl) f_VectorSolverModel_38 rfl rfl ?_
    refine xJ.aload_n (o_VectorSolverModel_make 36 rfl) rfl ?_
    refine xJ.getfield (o_VectorSolverModel_make 37 rfl) f_VectorSolverModel_220 rfl rfl ?_
    refine xJ.iload_n (o_VectorSolverModel_make 38 rfl) rfl ?_
    refine xJ.iastore (o_VectorSolverModel_make 39 rfl) rfl h.1 ?_
    replace h := h.2
    replace h := h _ rfl
    refine xJ.aload_n (o_VectorSolverModel_make 40 rfl) rfl ?_
    refine xJ.getfield (o_VectorSolverModel_make 41 rfl) f_VectorSolverModel_41 rfl rfl ?_
    refine xJ.aload_n (o_VectorSolverModel_make 42 rfl) rfl ?_
    refine xJ.getfield (o_VectorSolverModel_make 43 rfl) f_VectorSolverModel_220 rfl rfl ?_
    refine xJ.iload_n (o_VectorSolverModel_make 44 rfl) rfl ?_
    refine xJ.iastore (o_VectorSolverModel_make 45 rfl) rfl h.1 ?_
    replace h := h.2
    replace h := h _ rfl
    refine xJ.aload_n (o_VectorSolverModel_make 46 rfl) rfl ?_
    refine xJ.getfield (o_VectorSolverModel_make 47 rfl) f_VectorSolverModel_44 rfl rfl ?_
    refine xJ.aload_n (o_VectorSolverModel_make 48 rfl) rfl ?_
    refine xJ.getfield (o_VectorSolverModel_make 49 rfl) f_VectorSolverModel_220 rfl rfl ?_
    refine xJ.iload_n (o_VectorSolverModel_make 50 rfl) rfl ?_
    refine xJ.iastore (o_VectorSolverModel_make 51 rfl) rfl h.1 ?_
    replace h := h.2
    replace h := h _ rfl
    refine xJ.aload_n (o_VectorSolverModel_make 52 rfl) rfl ?_
    refine xJ.getfield (o_VectorSolverModel_make 53 rfl) f_VectorSolverModel_47 rfl rfl ?_
    refine xJ.aload_n (o_VectorSolverModel_make 54 rfl) rfl ?_
    refine xJ.getfield (o_VectorSolverModel_make 55 rfl) f_VectorSolverModel_220 rfl rfl ?_
    refine xJ.aload_n (o_VectorSolverModel_make 56 rfl) rfl ?_
    refine xJ.getfield (o_VectorSolverModel_make 57 rfl) f_VectorSolverModel_227 rfl rfl ?_
    refine xJ.iastore (o_VectorSolverModel_make 58 rfl) rfl h.1 ?_
    replace h := h.2
    replace h := h _ rfl
    refine xJ.aload_n (o_VectorSolverModel_make 59 rfl) rfl ?_
    refine xJ.getfield (o_VectorSolverModel_make 60 rfl) f_VectorSolverModel_50 rfl rfl ?_
    refine xJ.aload_n (o_VectorSolverModel_make 61 rfl) rfl ?_
    refine xJ.getfield (o_VectorSolverModel_make 62 rfl) f_VectorSolverModel_220 rfl rfl ?_
    refine xJ.iconst (v := 0) (o_VectorSolverModel_make 63 rfl) (by decide) ?_
    refine xJ.iastore (o_VectorSolverModel_make 64 rfl) rfl h.1 ?_
    replace h := h.2
    replace h := h _ rfl
    refine xJ.aload_n (o_VectorSolverModel_make 65 rfl) rfl ?_
    refine xJ.getfield (o_VectorSolverModel_make 66 rfl) f_VectorSolverModel_53 rfl rfl ?_
    refine xJ.aload_n (o_VectorSolverModel_make 67 rfl) rfl ?_
    refine xJ.getfield (o_VectorSolverModel_make 68 rfl) f_VectorSolverModel_220 rfl rfl ?_
    refine xJ.iconst (v := 0) (o_VectorSolverModel_make 69 rfl) (by decide) ?_
    refine xJ.iastore (o_VectorSolverModel_make 70 rfl) rfl h.1 ?_
    replace h := h.2
    replace h := h _ rfl
    refine xJ.aload_n (o_VectorSolverModel_make 71 rfl) rfl ?_
    refine xJ.getfield (o_VectorSolverModel_make 72 rfl) f_VectorSolverModel_56 rfl rfl ?_
    refine xJ.aload_n (o_VectorSolverModel_make 73 rfl) rfl ?_
    refine xJ.getfield (o_VectorSolverModel_make 74 rfl) f_VectorSolverModel_220 rfl rfl ?_
    refine xJ.iconst (v := 0) (o_VectorSolverModel_make 75 rfl) (by decide) ?_
    refine xJ.iastore (o_VectorSolverModel_make 76 rfl) rfl h.1 ?_
    replace h := h.2
    replace h := h _ rfl
    refine xJ.aload_n (o_VectorSolverModel_make 77 rfl) rfl ?_
    refine xJ.getfield (o_VectorSolverModel_make 78 rfl) f_VectorSolverModel_59 rfl rfl ?_
    refine xJ.aload_n (o_VectorSolverModel_make 79 rfl) rfl ?_
    refine xJ.getfield (o_VectorSolverModel_make 80 rfl) f_VectorSolverModel_220 rfl rfl ?_
    refine xJ.iconst (v := (-1)) (o_VectorSolverModel_make 81 rfl) (by decide) ?_
    refine xJ.iastore (o_VectorSolverModel_make 82 rfl) rfl h.1 ?_
    replace h := h.2
    replace h := h _ rfl
    refine xJ.aload_n (o_VectorSolverModel_make 83 rfl) rfl ?_
    refine xJ.getfield (o_VectorSolverModel_make 84 rfl) f_VectorSolverModel_62 rfl rfl ?_
    refine xJ.aload_n (o_VectorSolverModel_make 85 rfl) rfl ?_
    refine xJ.getfield (o_VectorSolverModel_make 86 rfl) f_VectorSolverModel_220 rfl rfl ?_
    refine xJ.lconst (v := 0) (o_VectorSolverModel_make 87 rfl) (by decide) ?_
    refine xJ.lastore (o_VectorSolverModel_make 88 rfl) rfl h.1 ?_
    replace h := h.2
    replace h := h _ rfl
    refine xJ.aload_n (o_VectorSolverModel_make 89 rfl) rfl ?_
    refine xJ.dup (o_VectorSolverModel_make 90 rfl) rfl ?_
    refine xJ.getfield (o_VectorSolverModel_make 91 rfl) f_VectorSolverModel_220 rfl rfl ?_
    refine xJ.iconst (v := 1) (o_VectorSolverModel_make 92 rfl) (by decide) ?_
    refine xJ.iadd (o_VectorSolverModel_make 93 rfl) ?_
    refine xJ.putI (o_VectorSolverModel_make 94 rfl) f_VectorSolverModel_220 rfl rfl rfl ?_
    replace h := h _ rfl
    refine xJ.aload_n (o_VectorSolverModel_make 95 rfl) rfl ?_
    refine xJ.getfield (o_VectorSolverModel_make 96 rfl) f_VectorSolverModel_220 rfl rfl ?_
    refine xJ.iconst (v := 1) (o_VectorSolverModel_make 97 rfl) (by decide) ?_
    refine xJ.isub (o_VectorSolverModel_make 98 rfl) ?_
    exact xJ.ireturn (o_VectorSolverModel_make 99 rfl) rfl h
  · replace h := h.2 z
    refine xJ.iconst (v := 0) (o_VectorSolverModel_make 26 rfl) (by decide) ?_
    exact xJ.ireturn (o_VectorSolverModel_make 27 rfl) rfl h
set_option maxRecDepth 20000 in
theorem sw_VectorSolverModel_make_16 {γ : xG1} {d b0 : Nat} {Q : xO → xS → Prop} {a1 : Int32} {a2 : Int32} {a3 : Int32} {a4 : Int32} {a5 : Int32} {t1 : Int32} {σ : xS} (h : w_VectorSolverModel_make_16 Q a1 a2 a3 a4 a5 t1 σ) : xJ (SHP, γ) Y_VectorSolverModel_make (d + 1) b0 16 [(0, .ref 50), (1, .int a1), (2, .int a2), (3, .int a3), (4, .int a4), (5, .int a5)] [.int t1, .ref 50] σ Q := by
  refine xJ.bipush (v := 11) (o_VectorSolverModel_make 8 rfl) (by decide) ?_
  refine xJ.iload (o_VectorSolverModel_make 9 rfl) rfl ?_
  refine xJ.callV (Y' := Y_VectorSolverModel_want) (o_VectorSolverModel_make 10 rfl) m_VectorSolverModel_172 y_VectorSolverModel_want im_VectorSolverModel_want se_VectorSolverModel_want rfl rfl (s_VectorSolverModel_want h) rfl rfl (Nat.le_of_ble_eq_true rfl) (fun _ hx => by cases hx) (fun v u q => ?_) (fun n u q => q)
  obtain ⟨r, rfl, h⟩ := xqi_get q
  refine xJ.if_eq (tgt := 54) (o_VectorSolverModel_make 11 rfl) (by decide) (fun z => ?_) (fun z => ?_)
  · replace h := h.1 z
    refine xJ.iconst (v := 0) (o_VectorSolverModel_make 26 rfl) (by decide) ?_
    exact xJ.ireturn (o_VectorSolverModel_make 27 rfl) rfl h
  · replace h := h.2 z
    refine xJ.aload_n (o_VectorSolverModel_make 12 rfl) rfl ?_
    refine xJ.aload_n (o_VectorSolverModel_make 13 rfl) rfl ?_
    refine xJ.getfield (o_VectorSolverModel_make 14 rfl) f_VectorSolverModel_223 rfl rfl ?_
    refine xJ.iload (o_VectorSolverModel_make 15 rfl) rfl ?_
    refine xJ.iadd (o_VectorSolverModel_make 16 rfl) ?_
    refine xJ.ldc (v := 100000) (o_VectorSolverModel_make 17 rfl) k_VectorSolverModel_226 ?_
    refine xJ.icmp_gt (tgt := 43) (o_VectorSolverModel_make 18 rfl) (by decide) (fun z => ?_) (fun z => ?_)
    · replace h := h.1 z
      refine xJ.iconst (v := 0) (o_VectorSolverModel_make 21 rfl) (by decide) ?_
      exact xJ.lvs (by exact ⟨rfl, rfl, rfl, rfl, rfl, rfl, trivial⟩) (sw_VectorSolverModel_make_44 h)
    · replace h := h.2 z
      refine xJ.iconst (v := 1) (o_VectorSolverModel_make 19 rfl) (by decide) ?_
      refine xJ.goto (tgt := 44) (o_VectorSolverModel_make 20 rfl) (by decide) ?_
      exact xJ.lvs (by exact ⟨rfl, rfl, rfl, rfl, rfl, rfl, trivial⟩) (sw_VectorSolverModel_make_44 h)
set_option maxRecDepth 20000 in
theorem s_VectorSolverModel_make {γ : xG1} {d : Nat} {Q : xO → xS → Prop} {σ : xS} {a1 : Int32} {a2 : Int32} {a3 : Int32} {a4 : Int32} {a5 : Int32} (h : wp_VectorSolverModel_make Q σ a1 a2 a3 a4 a5) : xM (SHP, γ) Y_VectorSolverModel_make (d + 1) [.ref 50, .int a1, .int a2, .int a3, .int a4, .int a5] σ Q := by
  refine xM.of (by decide) (Nat.le_of_ble_eq_true rfl) ?_
  refine xJ.aload_n (o_VectorSolverModel_make 0 rfl) rfl ?_
  refine xJ.aload_n (o_VectorSolverModel_make 1 rfl) rfl ?_
  refine xJ.getfield (o_VectorSolverModel_make 2 rfl) f_VectorSolverModel_220 rfl rfl ?_
  refine xJ.sipush (v := 2000) (o_VectorSolverModel_make 3 rfl) (by decide) ?_
  refine xJ.icmp_ge (tgt := 15) (o_VectorSolverModel_make 4 rfl) (by decide) (fun z => ?_) (fun z => ?_)
  · replace h := h.1 z
    refine xJ.iconst (v := 0) (o_VectorSolverModel_make 7 rfl) (by decide) ?_
    exact xJ.lvs (by exact ⟨rfl, rfl, rfl, rfl, rfl, rfl, trivial⟩) (sw_VectorSolverModel_make_16 h)
  · replace h := h.2 z
    refine xJ.iconst (v := 1) (o_VectorSolverModel_make 5 rfl) (by decide) ?_
    refine xJ.goto (tgt := 16) (o_VectorSolverModel_make 6 rfl) (by decide) ?_
    exact xJ.lvs (by exact ⟨rfl, rfl, rfl, rfl, rfl, rfl, trivial⟩) (sw_VectorSolverModel_make_16 h)
def wp_VectorSolverModel_bitsOf (Q : xO → xS → Prop) (σ : xS) (a0 : Int32) (a1 : Int32) : Prop :=
  ((a0 ≤ 0 → ((a1 ≤ 0 → Q (.inl (some (.int 1))) σ) ∧ (¬ a1 ≤ 0 → Q (.inl (some (.int a1))) σ))) ∧ (¬ a0 ≤ 0 → Q (.inl (some (.int (jishl a1 a0)))) σ))
set_option maxRecDepth 20000 in
theorem s_VectorSolverModel_bitsOf {γ : xG1} {d : Nat} {Q : xO → xS → Prop} {σ : xS} {a0 : Int32} {a1 : Int32} (h : wp_VectorSolverModel_bitsOf Q σ a0 a1) : xM (SHP, γ) Y_VectorSolverModel_bitsOf (d + 0) [.int a0, .int a1] σ Q := by
  refine xM.of (by decide) (Nat.le_of_ble_eq_true rfl) ?_
  refine xJ.iload_n (o_VectorSolverModel_bitsOf 0 rfl) rfl ?_
  refine xJ.if_le (tgt := 10) (o_VectorSolverModel_bitsOf 1 rfl) (by decide) (fun z => ?_) (fun z => ?_)
  · replace h := h.1 z
    refine xJ.iload_n (o_VectorSolverModel_bitsOf 6 rfl) rfl ?_
    refine xJ.if_le (tgt := 18) (o_VectorSolverModel_bitsOf 7 rfl) (by decide) (fun z => ?_) (fun z => ?_)
    · replace h := h.1 z
      refine xJ.iconst (v := 1) (o_VectorSolverModel_bitsOf 10 rfl) (by decide) ?_
      exact xJ.ireturn (o_VectorSolverModel_bitsOf 11 rfl) rfl h
    · replace h := h.2 z
      refine xJ.iload_n (o_VectorSolverModel_bitsOf 8 rfl) rfl ?_
      refine xJ.goto (tgt := 19) (o_VectorSolverModel_bitsOf 9 rfl) (by decide) ?_
      exact xJ.ireturn (o_VectorSolverModel_bitsOf 11 rfl) rfl h
  · replace h := h.2 z
    refine xJ.iload_n (o_VectorSolverModel_bitsOf 2 rfl) rfl ?_
    refine xJ.iload_n (o_VectorSolverModel_bitsOf 3 rfl) rfl ?_
    refine xJ.ishl (o_VectorSolverModel_bitsOf 4 rfl) ?_
    refine xJ.goto (tgt := 19) (o_VectorSolverModel_bitsOf 5 rfl) (by decide) ?_
    exact xJ.ireturn (o_VectorSolverModel_bitsOf 11 rfl) rfl h
def wp_VectorSolverModel_widthOf (Q : xO → xS → Prop) (σ : xS) (a1 : Int32) : Prop :=
  (vp_in (xi σ 50 29) 64 ∧ (vp_in (((xi σ 50 36) - (xi σ 75 (xi σ 50 29).toNatClampNeg)) + a1) 2600 ∧ (vp_in (xi σ 76 (((xi σ 50 36) - (xi σ 75 (xi σ 50 29).toNatClampNeg)) + a1).toNatClampNeg) 2000 ∧ Q (.inl (some (.int (xi σ 58 (xi σ 76 (((xi σ 50 36) - (xi σ 75 (xi σ 50 29).toNatClampNeg)) + a1).toNatClampNeg).toNatClampNeg)))) σ)))
set_option maxRecDepth 20000 in
theorem s_VectorSolverModel_widthOf {γ : xG1} {d : Nat} {Q : xO → xS → Prop} {σ : xS} {a1 : Int32} (h : wp_VectorSolverModel_widthOf Q σ a1) : xM (SHP, γ) Y_VectorSolverModel_widthOf (d + 0) [.ref 50, .int a1] σ Q := by
  refine xM.of (by decide) (Nat.le_of_ble_eq_true rfl) ?_
  refine xJ.aload_n (o_VectorSolverModel_widthOf 0 rfl) rfl ?_
  refine xJ.getfield (o_VectorSolverModel_widthOf 1 rfl) f_VectorSolverModel_44 rfl rfl ?_
  refine xJ.aload_n (o_VectorSolverModel_widthOf 2 rfl) rfl ?_
  refine xJ.getfield (o_VectorSolverModel_widthOf 3 rfl) f_VectorSolverModel_100 rfl rfl ?_
  refine xJ.aload_n (o_VectorSolverModel_widthOf 4 rfl) rfl ?_
  refine xJ.getfield (o_VectorSolverModel_widthOf 5 rfl) f_VectorSolverModel_267 rfl rfl ?_
  refine xJ.aload_n (o_VectorSolverModel_widthOf 6 rfl) rfl ?_
  refine xJ.getfield (o_VectorSolverModel_widthOf 7 rfl) f_VectorSolverModel_97 rfl rfl ?_
  refine xJ.aload_n (o_VectorSolverModel_widthOf 8 rfl) rfl ?_
  refine xJ.getfield (o_VectorSolverModel_widthOf 9 rfl) f_VectorSolverModel_264 rfl rfl ?_
  refine xJ.iaload (o_VectorSolverModel_widthOf 10 rfl) rfl h.1 ?_
  replace h := h.2
  refine xJ.isub (o_VectorSolverModel_widthOf 11 rfl) ?_
  refine xJ.iload_n (o_VectorSolverModel_widthOf 12 rfl) rfl ?_
  refine xJ.iadd (o_VectorSolverModel_widthOf 13 rfl) ?_
  refine xJ.iaload (o_VectorSolverModel_widthOf 14 rfl) rfl h.1 ?_
  replace h := h.2
  refine xJ.iaload (o_VectorSolverModel_widthOf 15 rfl) rfl h.1 ?_
  replace h := h.2
  exact xJ.ireturn (o_VectorSolverModel_widthOf 16 rfl) rfl h
def wp_VectorSolverModel_indexOf (Q : xO → xS → Prop) (σ : xS) (a1 : Int32) : Prop :=
  (vp_in (xi σ 50 29) 64 ∧ (vp_in (((xi σ 50 36) - (xi σ 75 (xi σ 50 29).toNatClampNeg)) + a1) 2600 ∧ (vp_in (xi σ 76 (((xi σ 50 36) - (xi σ 75 (xi σ 50 29).toNatClampNeg)) + a1).toNatClampNeg) 2000 ∧ Q (.inl (some (.int (xi σ 57 (xi σ 76 (((xi σ 50 36) - (xi σ 75 (xi σ 50 29).toNatClampNeg)) + a1).toNatClampNeg).toNatClampNeg)))) σ)))
set_option maxRecDepth 20000 in
theorem s_VectorSolverModel_indexOf {γ : xG1} {d : Nat} {Q : xO → xS → Prop} {σ : xS} {a1 : Int32} (h : wp_VectorSolverModel_indexOf Q σ a1) : xM (SHP, γ) Y_VectorSolverModel_indexOf (d + 0) [.ref 50, .int a1] σ Q := by
  refine xM.of (by decide) (Nat.le_of_ble_eq_true rfl) ?_
  refine xJ.aload_n (o_VectorSolverModel_indexOf 0 rfl) rfl ?_
  refine xJ.getfield (o_VectorSolverModel_indexOf 1 rfl) f_VectorSolverModel_41 rfl rfl ?_
  refine xJ.aload_n (o_VectorSolverModel_indexOf 2 rfl) rfl ?_
  refine xJ.getfield (o_VectorSolverModel_indexOf 3 rfl) f_VectorSolverModel_100 rfl rfl ?_
  refine xJ.aload_n (o_VectorSolverModel_indexOf 4 rfl) rfl ?_
  refine xJ.getfield (o_VectorSolverModel_indexOf 5 rfl) f_VectorSolverModel_267 rfl rfl ?_
  refine xJ.aload_n (o_VectorSolverModel_indexOf 6 rfl) rfl ?_
  refine xJ.getfield (o_VectorSolverModel_indexOf 7 rfl) f_VectorSolverModel_97 rfl rfl ?_
  refine xJ.aload_n (o_VectorSolverModel_indexOf 8 rfl) rfl ?_
  refine xJ.getfield (o_VectorSolverModel_indexOf 9 rfl) f_VectorSolverModel_264 rfl rfl ?_
  refine xJ.iaload (o_VectorSolverModel_indexOf 10 rfl) rfl h.1 ?_
  replace h := h.2
  refine xJ.isub (o_VectorSolverModel_indexOf 11 rfl) ?_
  refine xJ.iload_n (o_VectorSolverModel_indexOf 12 rfl) rfl ?_
  refine xJ.iadd (o_VectorSolverModel_indexOf 13 rfl) ?_
  refine xJ.iaload (o_VectorSolverModel_indexOf 14 rfl) rfl h.1 ?_
  replace h := h.2
  refine xJ.iaload (o_VectorSolverModel_indexOf 15 rfl) rfl h.1 ?_
  replace h := h.2
  exact xJ.ireturn (o_VectorSolverModel_indexOf 16 rfl) rfl h
theorem sc_VectorSolverModel_heavy_59 {x : Int32} {P : Nat → Prop} (k0 : x = 7 → P 188) (k1 : x = 8 → P 204) (k2 : x = 9 → P 213) (k3 : x = 11 ∨ x = 17 → P 224) (k4 : x = 15 → P 229) (k5 : x = 16 → P 238) (k6 : x = 18 ∨ x = 19 → P 249) (k7 : x = 20 ∨ x = 21 → P 261) (k8 : x = 22 ∨ x = 23 ∨ x = 24 → P 273) (k9 : x = 34 ∨ x = 35 → P 278) (kd : ¬ x = 7 ∧ ¬ x = 8 ∧ ¬ x = 9 ∧ ¬ x = 11 ∧ ¬ x = 15 ∧ ¬ x = 16 ∧ ¬ x = 17 ∧ ¬ x = 18 ∧ ¬ x = 19 ∧ ¬ x = 20 ∧ ¬ x = 21 ∧ ¬ x = 22 ∧ ¬ x = 23 ∧ ¬ x = 24 ∧ ¬ x = 34 ∧ ¬ x = 35 → P 284) : ∃ t : Nat, xdst 59 225 7 35 #[129, 145, 154, 225, 165, 225, 225, 225, 170, 179, 165, 190, 190, 202, 202, 214, 214, 214, 225, 225, 225, 225, 225, 225, 225, 225, 225, 219, 219] x = (t : Int) ∧ P t := by
  by_cases h0_0 : x = 7
  · subst h0_0; exact ⟨188, by decide, k0 (rfl)⟩
  by_cases h1_0 : x = 8
  · subst h1_0; exact ⟨204, by decide, k1 (rfl)⟩
  by_cases h2_0 : x = 9
  · subst h2_0; exact ⟨213, by decide, k2 (rfl)⟩
  by_cases h3_0 : x = 11
  · subst h3_0; exact ⟨224, by decide, k3 (Or.inl rfl)⟩
  by_cases h3_1 : x = 17
  · subst h3_1; exact ⟨224, by decide, k3 (Or.inr (rfl))⟩
  by_cases h4_0 : x = 15
  · subst h4_0; exact ⟨229, by decide, k4 (rfl)⟩
  by_cases h5_0 : x = 16
  · subst h5_0; exact ⟨238, by decide, k5 (rfl)⟩
  by_cases h6_0 : x = 18
  · subst h6_0; exact ⟨249, by decide, k6 (Or.inl rfl)⟩
  by_cases h6_1 : x = 19
  · subst h6_1; exact ⟨249, by decide, k6 (Or.inr (rfl))⟩
  by_cases h7_0 : x = 20
  · subst h7_0; exact ⟨261, by decide, k7 (Or.inl rfl)⟩
  by_cases h7_1 : x = 21
  · subst h7_1; exact ⟨261, by decide, k7 (Or.inr (rfl))⟩
  by_cases h8_0 : x = 22
  · subst h8_0; exact ⟨273, by decide, k8 (Or.inl rfl)⟩
  by_cases h8_1 : x = 23
  · subst h8_1; exact ⟨273, by decide, k8 (Or.inr (Or.inl rfl))⟩
  by_cases h8_2 : x = 24
  · subst h8_2; exact ⟨273, by decide, k8 (Or.inr (Or.inr (rfl)))⟩
  by_cases h9_0 : x = 34
  · subst h9_0; exact ⟨278, by decide, k9 (Or.inl rfl)⟩
  by_cases h9_1 : x = 35
  · subst h9_1; exact ⟨278, by decide, k9 (Or.inr (rfl))⟩
  have nh0_0 := lv_neT h0_0 (show (7 : Int32).toInt = 7 by decide)
  have nh1_0 := lv_neT h1_0 (show (8 : Int32).toInt = 8 by decide)
  have nh2_0 := lv_neT h2_0 (show (9 : Int32).toInt = 9 by decide)
  have nh3_0 := lv_neT h3_0 (show (11 : Int32).toInt = 11 by decide)
  have nh3_1 := lv_neT h3_1 (show (17 : Int32).toInt = 17 by decide)
  have nh4_0 := lv_neT h4_0 (show (15 : Int32).toInt = 15 by decide)
  have nh5_0 := lv_neT h5_0 (show (16 : Int32).toInt = 16 by decide)
  have nh6_0 := lv_neT h6_0 (show (18 : Int32).toInt = 18 by decide)
  have nh6_1 := lv_neT h6_1 (show (19 : Int32).toInt = 19 by decide)
  have nh7_0 := lv_neT h7_0 (show (20 : Int32).toInt = 20 by decide)
  have nh7_1 := lv_neT h7_1 (show (21 : Int32).toInt = 21 by decide)
  have nh8_0 := lv_neT h8_0 (show (22 : Int32).toInt = 22 by decide)
  have nh8_1 := lv_neT h8_1 (show (23 : Int32).toInt = 23 by decide)
  have nh8_2 := lv_neT h8_2 (show (24 : Int32).toInt = 24 by decide)
  have nh9_0 := lv_neT h9_0 (show (34 : Int32).toInt = 34 by decide)
  have nh9_1 := lv_neT h9_1 (show (35 : Int32).toInt = 35 by decide)
  refine ⟨284, ?_, kd ⟨h0_0, h1_0, h2_0, h3_0, h4_0, h5_0, h3_1, h6_0, h6_1, h7_0, h7_1, h8_0, h8_1, h8_2, h9_0, h9_1⟩⟩
  by_cases d3 : x = 10
  · subst d3; decide
  by_cases d5 : x = 12
  · subst d5; decide
  by_cases d6 : x = 13
  · subst d6; decide
  by_cases d7 : x = 14
  · subst d7; decide
  by_cases d18 : x = 25
  · subst d18; decide
  by_cases d19 : x = 26
  · subst d19; decide
  by_cases d20 : x = 27
  · subst d20; decide
  by_cases d21 : x = 28
  · subst d21; decide
  by_cases d22 : x = 29
  · subst d22; decide
  by_cases d23 : x = 30
  · subst d23; decide
  by_cases d24 : x = 31
  · subst d24; decide
  by_cases d25 : x = 32
  · subst d25; decide
  by_cases d26 : x = 33
  · subst d26; decide
  have nd3 := lv_neT d3 (show (10 : Int32).toInt = 10 by decide)
  have nd5 := lv_neT d5 (show (12 : Int32).toInt = 12 by decide)
  have nd6 := lv_neT d6 (show (13 : Int32).toInt = 13 by decide)
  have nd7 := lv_neT d7 (show (14 : Int32).toInt = 14 by decide)
  have nd18 := lv_neT d18 (show (25 : Int32).toInt = 25 by decide)
  have nd19 := lv_neT d19 (show (26 : Int32).toInt = 26 by decide)
  have nd20 := lv_neT d20 (show (27 : Int32).toInt = 27 by decide)
  have nd21 := lv_neT d21 (show (28 : Int32).toInt = 28 by decide)
  have nd22 := lv_neT d22 (show (29 : Int32).toInt = 29 by decide)
  have nd23 := lv_neT d23 (show (30 : Int32).toInt = 30 by decide)
  have nd24 := lv_neT d24 (show (31 : Int32).toInt = 31 by decide)
  have nd25 := lv_neT d25 (show (32 : Int32).toInt = 32 by decide)
  have nd26 := lv_neT d26 (show (33 : Int32).toInt = 33 by decide)
  exact xdst_out (by omega) rfl
def w_VectorSolverModel_heavy_49 (Q : xO → xS → Prop) (a2 : Int32) (a4 : Int32) (σ : xS) : Prop :=
  Q (.inl (some (.int ((4 * a4) * (a2 - 1))))) σ
def w_VectorSolverModel_heavy_58 (Q : xO → xS → Prop) (a1 : Int32) (a2 : Int32) (a3 : Int32) (a4 : Int32) (σ : xS) : Prop :=
  ((a1 = 7 → wp_VectorSolverModel_indexOf (xqi (fun r8 u7 => wp_VectorSolverModel_widthOf (xqi (fun r10 u9 => wp_VectorSolverModel_bitsOf (xqi (fun r12 u11 => Q (.inl (some (.int (4 * r12)))) u11) (fun n u => Q (.inr n) u)) u9 r8 r10) (fun n u => Q (.inr n) u)) u7 1) (fun n u => Q (.inr n) u)) σ 1) ∧ (a1 = 8 → Q (.inl (some (.int ((5 * a4) * (a2 - 1))))) σ) ∧ (a1 = 9 → Q (.inl (some (.int (((5 * a4) * a2) * (a2 - 1))))) σ) ∧ (a1 = 11 ∨ a1 = 17 → Q (.inl (some (.int (10 * a3)))) σ) ∧ (a1 = 15 → Q (.inl (some (.int ((10 * a3) * (a2 - 1))))) σ) ∧ (a1 = 16 → Q (.inl (some (.int (((14 * a3) * a3) * (a2 - 1))))) σ) ∧ (a1 = 18 ∨ a1 = 19 → Q (.inl (some (.int (((16 * a3) * a3) + (32 * a3))))) σ) ∧ (a1 = 20 ∨ a1 = 21 → Q (.inl (some (.int (((16 * a3) * a3) + (80 * a3))))) σ) ∧ (a1 = 22 ∨ a1 = 23 ∨ a1 = 24 → Q (.inl (some (.int (30 * a3)))) σ) ∧ (a1 = 34 ∨ a1 = 35 → Q (.inl (some (.int (8 * a4)))) σ) ∧ (¬ a1 = 7 ∧ ¬ a1 = 8 ∧ ¬ a1 = 9 ∧ ¬ a1 = 11 ∧ ¬ a1 = 15 ∧ ¬ a1 = 16 ∧ ¬ a1 = 17 ∧ ¬ a1 = 18 ∧ ¬ a1 = 19 ∧ ¬ a1 = 20 ∧ ¬ a1 = 21 ∧ ¬ a1 = 22 ∧ ¬ a1 = 23 ∧ ¬ a1 = 24 ∧ ¬ a1 = 34 ∧ ¬ a1 = 35 → ((33 ≤ a1 → Q (.inl (some (.int (xi σ 50 57)))) σ) ∧ (¬ 33 ≤ a1 → Q (.inl (some (.int (10 * a3)))) σ))))
def wp_VectorSolverModel_heavy (Q : xO → xS → Prop) (σ : xS) (a1 : Int32) (a2 : Int32) : Prop :=
  wp_VectorSolverModel_widthOf (xqi (fun r2 u1 => wp_VectorSolverModel_indexOf (xqi (fun r4 u3 => wp_VectorSolverModel_bitsOf (xqi (fun r6 u5 => ((a1 = 2 → Q (.inl (some (.int r6))) u5) ∧ (¬ a1 = 2 → ((¬ a1 = 10 → ((a1 < 7 → w_VectorSolverModel_heavy_49 Q a2 r6 u5) ∧ (¬ a1 < 7 → ((a1 ≤ 11 → w_VectorSolverModel_heavy_58 Q a1 a2 r2 r6 u5) ∧ (¬ a1 ≤ 11 → ((15 ≤ a1 → w_VectorSolverModel_heavy_58 Q a1 a2 r2 r6 u5) ∧ (¬ 15 ≤ a1 → w_VectorSolverModel_heavy_49 Q a2 r6 u5))))))) ∧ (a1 = 10 → Q (.inl (some (.int r6))) u5))))) (fun n u => Q (.inr n) u)) u3 r4 r2) (fun n u => Q (.inr n) u)) u1 0) (fun n u => Q (.inr n) u)) σ 0
set_option maxRecDepth 20000 in
theorem sw_VectorSolverModel_heavy_49 {γ : xG1} {d b0 : Nat} {Q : xO → xS → Prop} {a2 : Int32} {a4 : Int32} {σ : xS} (h : w_VectorSolverModel_heavy_49 Q a2 a4 σ) : xJ (SHP, γ) Y_VectorSolverModel_heavy (d + 1) b0 49 [(2, .int a2), (4, .int a4)] [] σ Q := by
  refine xJ.iconst (v := 4) (o_VectorSolverModel_heavy 27 rfl) (by decide) ?_
  refine xJ.iload (o_VectorSolverModel_heavy 28 rfl) rfl ?_
  refine xJ.imul (o_VectorSolverModel_heavy 29 rfl) ?_
  refine xJ.iload_n (o_VectorSolverModel_heavy 30 rfl) rfl ?_
  refine xJ.iconst (v := 1) (o_VectorSolverModel_heavy 31 rfl) (by decide) ?_
  refine xJ.isub (o_VectorSolverModel_heavy 32 rfl) ?_
  refine xJ.imul (o_VectorSolverModel_heavy 33 rfl) ?_
  exact xJ.ireturn (o_VectorSolverModel_heavy 34 rfl) rfl h
set_option maxRecDepth 20000 in
theorem sw_VectorSolverModel_heavy_58 {γ : xG1} {d b0 : Nat} {Q : xO → xS → Prop} {a1 : Int32} {a2 : Int32} {a3 : Int32} {a4 : Int32} {σ : xS} (h : w_VectorSolverModel_heavy_58 Q a1 a2 a3 a4 σ) : xJ (SHP, γ) Y_VectorSolverModel_heavy (d + 1) b0 58 [(0, .ref 50), (1, .int a1), (2, .int a2), (3, .int a3), (4, .int a4)] [] σ Q := by
  refine xJ.iload_n (o_VectorSolverModel_heavy 35 rfl) rfl ?_
  refine xJ.tsw (o_VectorSolverModel_heavy 36 rfl) (by decide) (sc_VectorSolverModel_heavy_59 (fun z => ?_) (fun z => ?_) (fun z => ?_) (fun z => ?_) (fun z => ?_) (fun z => ?_) (fun z => ?_) (fun z => ?_) (fun z => ?_) (fun z => ?_) (fun z => ?_))
  · replace h := h.1 z
    refine xJ.iconst (v := 4) (o_VectorSolverModel_heavy 37 rfl) (by decide) ?_
    refine xJ.aload_n (o_VectorSolverModel_heavy 38 rfl) rfl ?_
    refine xJ.iconst (v := 1) (o_VectorSolverModel_heavy 39 rfl) (by decide) ?_
    refine xJ.callV (Y' := Y_VectorSolverModel_indexOf) (o_VectorSolverModel_heavy 40 rfl) m_VectorSolverModel_296 y_VectorSolverModel_indexOf im_VectorSolverModel_indexOf se_VectorSolverModel_indexOf rfl rfl (s_VectorSolverModel_indexOf h) rfl rfl (Nat.le_of_ble_eq_true rfl) (fun _ hx => by cases hx) (fun v u q => ?_) (fun n u q => q)
    obtain ⟨r, rfl, h⟩ := xqi_get q
    refine xJ.aload_n (o_VectorSolverModel_heavy 41 rfl) rfl ?_
    refine xJ.iconst (v := 1) (o_VectorSolverModel_heavy 42 rfl) (by decide) ?_
    refine xJ.callV (Y' := Y_VectorSolverModel_widthOf) (o_VectorSolverModel_heavy 43 rfl) m_VectorSolverModel_299 y_VectorSolverModel_widthOf im_VectorSolverModel_widthOf se_VectorSolverModel_widthOf rfl rfl (s_VectorSolverModel_widthOf h) rfl rfl (Nat.le_of_ble_eq_true rfl) (fun _ hx => by cases hx) (fun v u q => ?_) (fun n u q => q)
    obtain ⟨r, rfl, h⟩ := xqi_get q
    refine xJ.callS (Y' := Y_VectorSolverModel_bitsOf) (o_VectorSolverModel_heavy 44 rfl) m_VectorSolverModel_236 y_VectorSolverModel_bitsOf st_VectorSolverModel_bitsOf (s_VectorSolverModel_bitsOf h) rfl rfl (Nat.le_of_ble_eq_true rfl) (fun _ hx => by cases hx) (fun v u q => ?_) (fun n u q => q)
    obtain ⟨r, rfl, h⟩ := xqi_get q
    refine xJ.imul (o_VectorSolverModel_heavy 45 rfl) ?_
    exact xJ.ireturn (o_VectorSolverModel_heavy 46 rfl) rfl h
  · replace h := h.2.1 z
    refine xJ.iconst (v := 5) (o_VectorSolverModel_heavy 47 rfl) (by decide) ?_
    refine xJ.iload (o_VectorSolverModel_heavy 48 rfl) rfl ?_
    refine xJ.imul (o_VectorSolverModel_heavy 49 rfl) ?_
    refine xJ.iload_n (o_VectorSolverModel_heavy 50 rfl) rfl ?_
    refine xJ.iconst (v := 1) (o_VectorSolverModel_heavy 51 rfl) (by decide) ?_
    refine xJ.isub (o_VectorSolverModel_heavy 52 rfl) ?_
    refine xJ.imul (o_VectorSolverModel_heavy 53 rfl) ?_
    exact xJ.ireturn (o_VectorSolverModel_heavy 54 rfl) rfl h
  · replace h := h.2.2.1 z
    refine xJ.iconst (v := 5) (o_VectorSolverModel_heavy 55 rfl) (by decide) ?_
    refine xJ.iload (o_VectorSolverModel_heavy 56 rfl) rfl ?_
    refine xJ.imul (o_VectorSolverModel_heavy 57 rfl) ?_
    refine xJ.iload_n (o_VectorSolverModel_heavy 58 rfl) rfl ?_
    refine xJ.imul (o_VectorSolverModel_heavy 59 rfl) ?_
    refine xJ.iload_n (o_VectorSolverModel_heavy 60 rfl) rfl ?_
    refine xJ.iconst (v := 1) (o_VectorSolverModel_heavy 61 rfl) (by decide) ?_
    refine xJ.isub (o_VectorSolverModel_heavy 62 rfl) ?_
    refine xJ.imul (o_VectorSolverModel_heavy 63 rfl) ?_
    exact xJ.ireturn (o_VectorSolverModel_heavy 64 rfl) rfl h
  · replace h := h.2.2.2.1 z
    refine xJ.bipush (v := 10) (o_VectorSolverModel_heavy 65 rfl) (by decide) ?_
    refine xJ.iload_n (o_VectorSolverModel_heavy 66 rfl) rfl ?_
    refine xJ.imul (o_VectorSolverModel_heavy 67 rfl) ?_
    exact xJ.ireturn (o_VectorSolverModel_heavy 68 rfl) rfl h
  · replace h := h.2.2.2.2.1 z
    refine xJ.bipush (v := 10) (o_VectorSolverModel_heavy 69 rfl) (by decide) ?_
    refine xJ.iload_n (o_VectorSolverModel_heavy 70 rfl) rfl ?_
    refine xJ.imul (o_VectorSolverModel_heavy 71 rfl) ?_
    refine xJ.iload_n (o_VectorSolverModel_heavy 72 rfl) rfl ?_
    refine xJ.iconst (v := 1) (o_VectorSolverModel_heavy 73 rfl) (by decide) ?_
    refine xJ.isub (o_VectorSolverModel_heavy 74 rfl) ?_
    refine xJ.imul (o_VectorSolverModel_heavy 75 rfl) ?_
    exact xJ.ireturn (o_VectorSolverModel_heavy 76 rfl) rfl h
  · replace h := h.2.2.2.2.2.1 z
    refine xJ.bipush (v := 14) (o_VectorSolverModel_heavy 77 rfl) (by decide) ?_
    refine xJ.iload_n (o_VectorSolverModel_heavy 78 rfl) rfl ?_
    refine xJ.imul (o_VectorSolverModel_heavy 79 rfl) ?_
    refine xJ.iload_n (o_VectorSolverModel_heavy 80 rfl) rfl ?_
    refine xJ.imul (o_VectorSolverModel_heavy 81 rfl) ?_
    refine xJ.iload_n (o_VectorSolverModel_heavy 82 rfl) rfl ?_
    refine xJ.iconst (v := 1) (o_VectorSolverModel_heavy 83 rfl) (by decide) ?_
    refine xJ.isub (o_VectorSolverModel_heavy 84 rfl) ?_
    refine xJ.imul (o_VectorSolverModel_heavy 85 rfl) ?_
    exact xJ.ireturn (o_VectorSolverModel_heavy 86 rfl) rfl h
  · replace h := h.2.2.2.2.2.2.1 z
    refine xJ.bipush (v := 16) (o_VectorSolverModel_heavy 87 rfl) (by decide) ?_
    refine xJ.iload_n (o_VectorSolverModel_heavy 88 rfl) rfl ?_
    refine xJ.imul (o_VectorSolverModel_heavy 89 rfl) ?_
    refine xJ.iload_n (o_VectorSolverModel_heavy 90 rfl) rfl ?_
    refine xJ.imul (o_VectorSolverModel_heavy 91 rfl) ?_
    refine xJ.bipush (v := 32) (o_VectorSolverModel_heavy 92 rfl) (by decide) ?_
    refine xJ.iload_n (o_VectorSolverModel_heavy 93 rfl) rfl ?_
    refine xJ.imul (o_VectorSolverModel_heavy 94 rfl) ?_
    refine xJ.iadd (o_VectorSolverModel_heavy 95 rfl) ?_
    exact xJ.ireturn (o_VectorSolverModel_heavy 96 rfl) rfl h
  · replace h := h.2.2.2.2.2.2.2.1 z
    refine xJ.bipush (v := 16) (o_VectorSolverModel_heavy 97 rfl) (by decide) ?_
    refine xJ.iload_n (o_VectorSolverModel_heavy 98 rfl) rfl ?_
    refine xJ.imul (o_VectorSolverModel_heavy 99 rfl) ?_
    refine xJ.iload_n (o_VectorSolverModel_heavy 100 rfl) rfl ?_
    refine xJ.imul (o_VectorSolverModel_heavy 101 rfl) ?_
    refine xJ.bipush (v := 80) (o_VectorSolverModel_heavy 102 rfl) (by decide) ?_
    refine xJ.iload_n (o_VectorSolverModel_heavy 103 rfl) rfl ?_
    refine xJ.imul (o_VectorSolverModel_heavy 104 rfl) ?_
    refine xJ.iadd (o_VectorSolverModel_heavy 105 rfl) ?_
    exact xJ.ireturn (o_VectorSolverModel_heavy 106 rfl) rfl h
  · replace h := h.2.2.2.2.2.2.2.2.1 z
    refine xJ.bipush (v := 30) (o_VectorSolverModel_heavy 107 rfl) (by decide) ?_
    refine xJ.iload_n (o_VectorSolverModel_heavy 108 rfl) rfl ?_
    refine xJ.imul (o_VectorSolverModel_heavy 109 rfl) ?_
    exact xJ.ireturn (o_VectorSolverModel_heavy 110 rfl) rfl h
  · replace h := h.2.2.2.2.2.2.2.2.2.1 z
    refine xJ.bipush (v := 8) (o_VectorSolverModel_heavy 111 rfl) (by decide) ?_
    refine xJ.iload (o_VectorSolverModel_heavy 112 rfl) rfl ?_
    refine xJ.imul (o_VectorSolverModel_heavy 113 rfl) ?_
    exact xJ.ireturn (o_VectorSolverModel_heavy 114 rfl) rfl h
  · replace h := h.2.2.2.2.2.2.2.2.2.2 z
    refine xJ.iload_n (o_VectorSolverModel_heavy 115 rfl) rfl ?_
    refine xJ.bipush (v := 33) (o_VectorSolverModel_heavy 116 rfl) (by decide) ?_
    refine xJ.icmp_ge (tgt := 297) (o_VectorSolverModel_heavy 117 rfl) (by decide) (fun z => ?_) (fun z => ?_)
    · replace h := h.1 z
      refine xJ.aload_n (o_VectorSolverModel_heavy 122 rfl) rfl ?_
      refine xJ.getfield (o_VectorSolverModel_heavy 123 rfl) f_VectorSolverModel_308 rfl rfl ?_
      exact xJ.ireturn (o_VectorSolverModel_heavy 124 rfl) rfl h
    · replace h := h.2 z
      refine xJ.bipush (v := 10) (o_VectorSolverModel_heavy 118 rfl) (by decide) ?_
      refine xJ.iload_n (o_VectorSolverModel_heavy 119 rfl) rfl ?_
      refine xJ.imul (o_VectorSolverModel_heavy 120 rfl) ?_
      refine xJ.goto (tgt := 301) (o_VectorSolverModel_heavy 121 rfl) (by decide) ?_
      exact xJ.ireturn (o_VectorSolverModel_heavy 124 rfl) rfl h
set_option maxRecDepth 20000 in
theorem s_VectorSolverModel_heavy {γ : xG1} {d : Nat} {Q : xO → xS → Prop} {σ : xS} {a1 : Int32} {a2 : Int32} (h : wp_VectorSolverModel_heavy Q σ a1 a2) : xM (SHP, γ) Y_VectorSolverModel_heavy (d + 1) [.ref 50, .int a1, .int a2] σ Q := by
  refine xM.of (by decide) (Nat.le_of_ble_eq_true rfl) ?_
  refine xJ.aload_n (o_VectorSolverModel_heavy 0 rfl) rfl ?_
  refine xJ.iconst (v := 0) (o_VectorSolverModel_heavy 1 rfl) (by decide) ?_
  refine xJ.callV (Y' := Y_VectorSolverModel_widthOf) (o_VectorSolverModel_heavy 2 rfl) m_VectorSolverModel_299 y_VectorSolverModel_widthOf im_VectorSolverModel_widthOf se_VectorSolverModel_widthOf rfl rfl (s_VectorSolverModel_widthOf h) rfl rfl (Nat.le_of_ble_eq_true rfl) (fun _ hx => by cases hx) (fun v u q => ?_) (fun n u q => q)
  obtain ⟨r, rfl, h⟩ := xqi_get q
  refine xJ.istore_n (o_VectorSolverModel_heavy 3 rfl) (by decide) ?_
  refine xJ.aload_n (o_VectorSolverModel_heavy 4 rfl) rfl ?_
  refine xJ.iconst (v := 0) (o_VectorSolverModel_heavy 5 rfl) (by decide) ?_
  refine xJ.callV (Y' := Y_VectorSolverModel_indexOf) (o_VectorSolverModel_heavy 6 rfl) m_VectorSolverModel_296 y_VectorSolverModel_indexOf im_VectorSolverModel_indexOf se_VectorSolverModel_indexOf rfl rfl (s_VectorSolverModel_indexOf h) rfl rfl (Nat.le_of_ble_eq_true rfl) (fun _ hx => by cases hx) (fun v u q => ?_) (fun n u q => q)
  obtain ⟨r, rfl, h⟩ := xqi_get q
  refine xJ.iload_n (o_VectorSolverModel_heavy 7 rfl) rfl ?_
  refine xJ.callS (Y' := Y_VectorSolverModel_bitsOf) (o_VectorSolverModel_heavy 8 rfl) m_VectorSolverModel_236 y_VectorSolverModel_bitsOf st_VectorSolverModel_bitsOf (s_VectorSolverModel_bitsOf h) rfl rfl (Nat.le_of_ble_eq_true rfl) (fun _ hx => by cases hx) (fun v u q => ?_) (fun n u q => q)
  obtain ⟨r, rfl, h⟩ := xqi_get q
  refine xJ.istore (o_VectorSolverModel_heavy 9 rfl) (by decide) ?_
  refine xJ.iload_n (o_VectorSolverModel_heavy 10 rfl) rfl ?_
  refine xJ.iconst (v := 2) (o_VectorSolverModel_heavy 11 rfl) (by decide) ?_
  refine xJ.icmp_eq (tgt := 28) (o_VectorSolverModel_heavy 12 rfl) (by decide) (fun z => ?_) (fun z => ?_)
  · replace h := h.1 z
    refine xJ.iload (o_VectorSolverModel_heavy 16 rfl) rfl ?_
    exact xJ.ireturn (o_VectorSolverModel_heavy 17 rfl) rfl h
  · replace h := h.2 z
    refine xJ.iload_n (o_VectorSolverModel_heavy 13 rfl) rfl ?_
    refine xJ.bipush (v := 10) (o_VectorSolverModel_heavy 14 rfl) (by decide) ?_
    refine xJ.icmp_ne (tgt := 31) (o_VectorSolverModel_heavy 15 rfl) (by decide) (fun z => ?_) (fun z => ?_)
    · replace h := h.1 z
      refine xJ.iload_n (o_VectorSolverModel_heavy 18 rfl) rfl ?_
      refine xJ.bipush (v := 7) (o_VectorSolverModel_heavy 19 rfl) (by decide) ?_
      refine xJ.icmp_lt (tgt := 49) (o_VectorSolverModel_heavy 20 rfl) (by decide) (fun z => ?_) (fun z => ?_)
      · replace h := h.1 z
        exact xJ.lvs (by exact ⟨rfl, rfl, trivial⟩) (sw_VectorSolverModel_heavy_49 h)
      · replace h := h.2 z
        refine xJ.iload_n (o_VectorSolverModel_heavy 21 rfl) rfl ?_
        refine xJ.bipush (v := 11) (o_VectorSolverModel_heavy 22 rfl) (by decide) ?_
        refine xJ.icmp_le (tgt := 58) (o_VectorSolverModel_heavy 23 rfl) (by decide) (fun z => ?_) (fun z => ?_)
        · replace h := h.1 z
          exact xJ.lvs (by exact ⟨rfl, rfl, rfl, rfl, rfl, trivial⟩) (sw_VectorSolverModel_heavy_58 h)
        · replace h := h.2 z
          refine xJ.iload_n (o_VectorSolverModel_heavy 24 rfl) rfl ?_
          refine xJ.bipush (v := 15) (o_VectorSolverModel_heavy 25 rfl) (by decide) ?_
          refine xJ.icmp_ge (tgt := 58) (o_VectorSolverModel_heavy 26 rfl) (by decide) (fun z => ?_) (fun z => ?_)
          · replace h := h.1 z
            exact xJ.lvs (by exact ⟨rfl, rfl, rfl, rfl, rfl, trivial⟩) (sw_VectorSolverModel_heavy_58 h)
          · replace h := h.2 z
            exact xJ.lvs (by exact ⟨rfl, rfl, trivial⟩) (sw_VectorSolverModel_heavy_49 h)
    · replace h := h.2 z
      refine xJ.iload (o_VectorSolverModel_heavy 16 rfl) rfl ?_
      exact xJ.ireturn (o_VectorSolverModel_heavy 17 rfl) rfl h
def wp_VectorSolverModel_gets (Q : xO → xS → Prop) (σ : xS) (a1 : Int32) (a2 : Int32) : Prop :=
  (∀ s1 : xS, s1 = xpi σ 50 56 a1 → (∀ s2 : xS, s2 = xpi s1 50 57 a2 → Q (.inl (some (.int 1))) s2))
set_option maxRecDepth 20000 in
theorem s_VectorSolverModel_gets {γ : xG1} {d : Nat} {Q : xO → xS → Prop} {σ : xS} {a1 : Int32} {a2 : Int32} (h : wp_VectorSolverModel_gets Q σ a1 a2) : xM (SHP, γ) Y_VectorSolverModel_gets (d + 0) [.ref 50, .int a1, .int a2] σ Q := by
  refine xM.of (by decide) (Nat.le_of_ble_eq_true rfl) ?_
  refine xJ.aload_n (o_VectorSolverModel_gets 0 rfl) rfl ?_
  refine xJ.iload_n (o_VectorSolverModel_gets 1 rfl) rfl ?_
  refine xJ.putI (o_VectorSolverModel_gets 2 rfl) f_VectorSolverModel_305 rfl rfl rfl ?_
  replace h := h _ rfl
  refine xJ.aload_n (o_VectorSolverModel_gets 3 rfl) rfl ?_
  refine xJ.iload_n (o_VectorSolverModel_gets 4 rfl) rfl ?_
  refine xJ.putI (o_VectorSolverModel_gets 5 rfl) f_VectorSolverModel_308 rfl rfl rfl ?_
  replace h := h _ rfl
  refine xJ.iconst (v := 1) (o_VectorSolverModel_gets 6 rfl) (by decide) ?_
  exact xJ.zreturn (o_VectorSolverModel_gets 7 rfl) rfl (Or.inr rfl) h
def wp_VectorSolverModel_isVector (Q : xO → xS → Prop) (σ : xS) (a1 : Int32) : Prop :=
  wp_VectorSolverModel_indexOf (xqi (fun r2 u1 => ((¬ r2 = 0 → Q (.inl (some (.int 0))) u1) ∧ (r2 = 0 → wp_VectorSolverModel_widthOf (xqi (fun r4 u3 => ((r4 ≤ 0 → Q (.inl (some (.int 0))) u3) ∧ (¬ r4 ≤ 0 → Q (.inl (some (.int 1))) u3))) (fun n u => Q (.inr n) u)) u1 a1))) (fun n u => Q (.inr n) u)) σ a1
set_option maxRecDepth 20000 in
theorem s_VectorSolverModel_isVector {γ : xG1} {d : Nat} {Q : xO → xS → Prop} {σ : xS} {a1 : Int32} (h : wp_VectorSolverModel_isVector Q σ a1) : xM (SHP, γ) Y_VectorSolverModel_isVector (d + 1) [.ref 50, .int a1] σ Q := by
  refine xM.of (by decide) (Nat.le_of_ble_eq_true rfl) ?_
  refine xJ.aload_n (o_VectorSolverModel_isVector 0 rfl) rfl ?_
  refine xJ.iload_n (o_VectorSolverModel_isVector 1 rfl) rfl ?_
  refine xJ.callV (Y' := Y_VectorSolverModel_indexOf) (o_VectorSolverModel_isVector 2 rfl) m_VectorSolverModel_296 y_VectorSolverModel_indexOf im_VectorSolverModel_indexOf se_VectorSolverModel_indexOf rfl rfl (s_VectorSolverModel_indexOf h) rfl rfl (Nat.le_of_ble_eq_true rfl) (fun _ hx => by cases hx) (fun v u q => ?_) (fun n u q => q)
  obtain ⟨r, rfl, h⟩ := xqi_get q
  refine xJ.if_ne (tgt := 20) (o_VectorSolverModel_isVector 3 rfl) (by decide) (fun z => ?_) (fun z => ?_)
  · replace h := h.1 z
    refine xJ.iconst (v := 0) (o_VectorSolverModel_isVector 10 rfl) (by decide) ?_
    exact xJ.zreturn (o_VectorSolverModel_isVector 11 rfl) rfl (Or.inl rfl) h
  · replace h := h.2 z
    refine xJ.aload_n (o_VectorSolverModel_isVector 4 rfl) rfl ?_
    refine xJ.iload_n (o_VectorSolverModel_isVector 5 rfl) rfl ?_
    refine xJ.callV (Y' := Y_VectorSolverModel_widthOf) (o_VectorSolverModel_isVector 6 rfl) m_VectorSolverModel_299 y_VectorSolverModel_widthOf im_VectorSolverModel_widthOf se_VectorSolverModel_widthOf rfl rfl (s_VectorSolverModel_widthOf h) rfl rfl (Nat.le_of_ble_eq_true rfl) (fun _ hx => by cases hx) (fun v u q => ?_) (fun n u q => q)
    obtain ⟨r, rfl, h⟩ := xqi_get q
    refine xJ.if_le (tgt := 20) (o_VectorSolverModel_isVector 7 rfl) (by decide) (fun z => ?_) (fun z => ?_)
    · replace h := h.1 z
      refine xJ.iconst (v := 0) (o_VectorSolverModel_isVector 10 rfl) (by decide) ?_
      exact xJ.zreturn (o_VectorSolverModel_isVector 11 rfl) rfl (Or.inl rfl) h
    · replace h := h.2 z
      refine xJ.iconst (v := 1) (o_VectorSolverModel_isVector 8 rfl) (by decide) ?_
      refine xJ.goto (tgt := 21) (o_VectorSolverModel_isVector 9 rfl) (by decide) ?_
      exact xJ.zreturn (o_VectorSolverModel_isVector 11 rfl) rfl (Or.inr rfl) h
def wp_VectorSolverModel_areAlike (Q : xO → xS → Prop) (σ : xS) (a1 : Int32) (a2 : Int32) : Prop :=
  wp_VectorSolverModel_indexOf (xqi (fun r2 u1 => wp_VectorSolverModel_indexOf (xqi (fun r4 u3 => ((¬ r2 = r4 → Q (.inl (some (.int 0))) u3) ∧ (r2 = r4 → wp_VectorSolverModel_widthOf (xqi (fun r6 u5 => wp_VectorSolverModel_widthOf (xqi (fun r8 u7 => ((¬ r6 = r8 → Q (.inl (some (.int 0))) u7) ∧ (r6 = r8 → Q (.inl (some (.int 1))) u7))) (fun n u => Q (.inr n) u)) u5 a2) (fun n u => Q (.inr n) u)) u3 a1))) (fun n u => Q (.inr n) u)) u1 a2) (fun n u => Q (.inr n) u)) σ a1
set_option maxRecDepth 20000 in
theorem s_VectorSolverModel_areAlike {γ : xG1} {d : Nat} {Q : xO → xS → Prop} {σ : xS} {a1 : Int32} {a2 : Int32} (h : wp_VectorSolverModel_areAlike Q σ a1 a2) : xM (SHP, γ) Y_VectorSolverModel_areAlike (d + 1) [.ref 50, .int a1, .int a2] σ Q := by
  refine xM.of (by decide) (Nat.le_of_ble_eq_true rfl) ?_
  refine xJ.aload_n (o_VectorSolverModel_areAlike 0 rfl) rfl ?_
  refine xJ.iload_n (o_VectorSolverModel_areAlike 1 rfl) rfl ?_
  refine xJ.callV (Y' := Y_VectorSolverModel_indexOf) (o_VectorSolverModel_areAlike 2 rfl) m_VectorSolverModel_296 y_VectorSolverModel_indexOf im_VectorSolverModel_indexOf se_VectorSolverModel_indexOf rfl rfl (s_VectorSolverModel_indexOf h) rfl rfl (Nat.le_of_ble_eq_true rfl) (fun _ hx => by cases hx) (fun v u q => ?_) (fun n u q => q)
  obtain ⟨r, rfl, h⟩ := xqi_get q
  refine xJ.aload_n (o_VectorSolverModel_areAlike 3 rfl) rfl ?_
  refine xJ.iload_n (o_VectorSolverModel_areAlike 4 rfl) rfl ?_
  refine xJ.callV (Y' := Y_VectorSolverModel_indexOf) (o_VectorSolverModel_areAlike 5 rfl) m_VectorSolverModel_296 y_VectorSolverModel_indexOf im_VectorSolverModel_indexOf se_VectorSolverModel_indexOf rfl rfl (s_VectorSolverModel_indexOf h) rfl rfl (Nat.le_of_ble_eq_true rfl) (fun _ hx => by cases hx) (fun v u q => ?_) (fun n u q => q)
  obtain ⟨r, rfl, h⟩ := xqi_get q
  refine xJ.icmp_ne (tgt := 30) (o_VectorSolverModel_areAlike 6 rfl) (by decide) (fun z => ?_) (fun z => ?_)
  · replace h := h.1 z
    refine xJ.iconst (v := 0) (o_VectorSolverModel_areAlike 16 rfl) (by decide) ?_
    exact xJ.zreturn (o_VectorSolverModel_areAlike 17 rfl) rfl (Or.inl rfl) h
  · replace h := h.2 z
    refine xJ.aload_n (o_VectorSolverModel_areAlike 7 rfl) rfl ?_
    refine xJ.iload_n (o_VectorSolverModel_areAlike 8 rfl) rfl ?_
    refine xJ.callV (Y' := Y_VectorSolverModel_widthOf) (o_VectorSolverModel_areAlike 9 rfl) m_VectorSolverModel_299 y_VectorSolverModel_widthOf im_VectorSolverModel_widthOf se_VectorSolverModel_widthOf rfl rfl (s_VectorSolverModel_widthOf h) rfl rfl (Nat.le_of_ble_eq_true rfl) (fun _ hx => by cases hx) (fun v u q => ?_) (fun n u q => q)
    obtain ⟨r, rfl, h⟩ := xqi_get q
    refine xJ.aload_n (o_VectorSolverModel_areAlike 10 rfl) rfl ?_
    refine xJ.iload_n (o_VectorSolverModel_areAlike 11 rfl) rfl ?_
    refine xJ.callV (Y' := Y_VectorSolverModel_widthOf) (o_VectorSolverModel_areAlike 12 rfl) m_VectorSolverModel_299 y_VectorSolverModel_widthOf im_VectorSolverModel_widthOf se_VectorSolverModel_widthOf rfl rfl (s_VectorSolverModel_widthOf h) rfl rfl (Nat.le_of_ble_eq_true rfl) (fun _ hx => by cases hx) (fun v u q => ?_) (fun n u q => q)
    obtain ⟨r, rfl, h⟩ := xqi_get q
    refine xJ.icmp_ne (tgt := 30) (o_VectorSolverModel_areAlike 13 rfl) (by decide) (fun z => ?_) (fun z => ?_)
    · replace h := h.1 z
      refine xJ.iconst (v := 0) (o_VectorSolverModel_areAlike 16 rfl) (by decide) ?_
      exact xJ.zreturn (o_VectorSolverModel_areAlike 17 rfl) rfl (Or.inl rfl) h
    · replace h := h.2 z
      refine xJ.iconst (v := 1) (o_VectorSolverModel_areAlike 14 rfl) (by decide) ?_
      refine xJ.goto (tgt := 31) (o_VectorSolverModel_areAlike 15 rfl) (by decide) ?_
      exact xJ.zreturn (o_VectorSolverModel_areAlike 17 rfl) rfl (Or.inr rfl) h
def w_VectorSolverModel_allAlike_4 (Q : xO → xS → Prop) : Nat → Int32 → Int32 → Int32 → xS → Prop
  | 0 => fun _ _ _ _ => False
  | n + 1 => fun a1 a2 a3 σ =>
    (vp_in (xi σ 50 29) 64 ∧ (((xi σ 75 (xi σ 50 29).toNatClampNeg) ≤ a3 → ((a2 = 0 ∨ a2 = 1) ∧ Q (.inl (some (.int a2))) σ)) ∧ (¬ (xi σ 75 (xi σ 50 29).toNatClampNeg) ≤ a3 → ((a2 = 0 → (∀ x1 : Int32, x1 = a3 + 1 → w_VectorSolverModel_allAlike_4 Q n a1 0 x1 σ)) ∧ (¬ a2 = 0 → wp_VectorSolverModel_areAlike (xqi (fun r3 u2 => ((r3 = 0 → (∀ x4 : Int32, x4 = a3 + 1 → w_VectorSolverModel_allAlike_4 Q n a1 0 x4 u2)) ∧ (¬ r3 = 0 → (∀ x5 : Int32, x5 = a3 + 1 → w_VectorSolverModel_allAlike_4 Q n a1 1 x5 u2)))) (fun n u => Q (.inr n) u)) σ a3 a1)))))
def wp_VectorSolverModel_allAlike (Q : xO → xS → Prop) (σ : xS) (a1 : Int32) : Prop :=
  ∃ m, w_VectorSolverModel_allAlike_4 Q m a1 1 a1 σ
set_option maxRecDepth 20000 in
theorem sw_VectorSolverModel_allAlike_4 {γ : xG1} {d b0 : Nat} {Q : xO → xS → Prop} : ∀ (n : Nat) (a1 : Int32) (a2 : Int32) (a3 : Int32) (σ : xS), w_VectorSolverModel_allAlike_4 Q n a1 a2 a3 σ → xJ (SHP, γ) Y_VectorSolverModel_allAlike (d + 2) b0 4 [(0, .ref 50), (1, .int a1), (2, .int a2), (3, .int a3)] [] σ Q := by
  intro n
  induction n with
  | zero => intro a1 a2 a3 σ h; exact h.elim
  | succ n ih =>
    intro a1 a2 a3 σ h
    refine xJ.iload_n (o_VectorSolverModel_allAlike 4 rfl) rfl ?_
    refine xJ.aload_n (o_VectorSolverModel_allAlike 5 rfl) rfl ?_
    refine xJ.getfield (o_VectorSolverModel_allAlike 6 rfl) f_VectorSolverModel_97 rfl rfl ?_
    refine xJ.aload_n (o_VectorSolverModel_allAlike 7 rfl) rfl ?_
    refine xJ.getfield (o_VectorSolverModel_allAlike 8 rfl) f_VectorSolverModel_264 rfl rfl ?_
    refine xJ.iaload (o_VectorSolverModel_allAlike 9 rfl) rfl h.1 ?_
    replace h := h.2
    refine xJ.icmp_ge (tgt := 42) (o_VectorSolverModel_allAlike 10 rfl) (by decide) (fun z => ?_) (fun z => ?_)
    · replace h := h.1 z
      refine xJ.iload_n (o_VectorSolverModel_allAlike 24 rfl) rfl ?_
      exact xJ.zreturn (o_VectorSolverModel_allAlike 25 rfl) rfl h.1 h.2
    · replace h := h.2 z
      refine xJ.iload_n (o_VectorSolverModel_allAlike 11 rfl) rfl ?_
      refine xJ.if_eq (tgt := 34) (o_VectorSolverModel_allAlike 12 rfl) (by decide) (fun z => ?_) (fun z => ?_)
      · replace h := h.1 z
        refine xJ.iconst (v := 0) (o_VectorSolverModel_allAlike 20 rfl) (by decide) ?_
        refine xJ.istore_n (o_VectorSolverModel_allAlike 21 rfl) (by decide) ?_
        refine xJ.iincC (w := 1) (o_VectorSolverModel_allAlike 22 rfl) rfl (by decide) (by decide) ?_
        replace h := h _ rfl
        refine xJ.goto (tgt := 4) (o_VectorSolverModel_allAlike 23 rfl) (by decide) ?_
        exact xJ.lvs (by exact ⟨rfl, rfl, rfl, rfl, trivial⟩) (ih _ _ _ _ h)
      · replace h := h.2 z
        refine xJ.aload_n (o_VectorSolverModel_allAlike 13 rfl) rfl ?_
        refine xJ.iload_n (o_VectorSolverModel_allAlike 14 rfl) rfl ?_
        refine xJ.iload_n (o_VectorSolverModel_allAlike 15 rfl) rfl ?_
        refine xJ.callV (Y' := Y_VectorSolverModel_areAlike) (o_VectorSolverModel_allAlike 16 rfl) m_VectorSolverModel_302 y_VectorSolverModel_areAlike im_VectorSolverModel_areAlike se_VectorSolverModel_areAlike rfl rfl (s_VectorSolverModel_areAlike h) rfl rfl (Nat.le_of_ble_eq_true rfl) (fun _ hx => by cases hx) (fun v u q => ?_) (fun n u q => q)
        obtain ⟨r, rfl, h⟩ := xqi_get q
        refine xJ.if_eq (tgt := 34) (o_VectorSolverModel_allAlike 17 rfl) (by decide) (fun z => ?_) (fun z => ?_)
        · replace h := h.1 z
          refine xJ.iconst (v := 0) (o_VectorSolverModel_allAlike 20 rfl) (by decide) ?_
          refine xJ.istore_n (o_VectorSolverModel_allAlike 21 rfl) (by decide) ?_
          refine xJ.iincC (w := 1) (o_VectorSolverModel_allAlike 22 rfl) rfl (by decide) (by decide) ?_
          replace h := h _ rfl
          refine xJ.goto (tgt := 4) (o_VectorSolverModel_allAlike 23 rfl) (by decide) ?_
          exact xJ.lvs (by exact ⟨rfl, rfl, rfl, rfl, trivial⟩) (ih _ _ _ _ h)
        · replace h := h.2 z
          refine xJ.iconst (v := 1) (o_VectorSolverModel_allAlike 18 rfl) (by decide) ?_
          refine xJ.goto (tgt := 35) (o_VectorSolverModel_allAlike 19 rfl) (by decide) ?_
          refine xJ.istore_n (o_VectorSolverModel_allAlike 21 rfl) (by decide) ?_
          refine xJ.iincC (w := 1) (o_VectorSolverModel_allAlike 22 rfl) rfl (by decide) (by decide) ?_
          replace h := h _ rfl
          refine xJ.goto (tgt := 4) (o_VectorSolverModel_allAlike 23 rfl) (by decide) ?_
          exact xJ.lvs (by exact ⟨rfl, rfl, rfl, rfl, trivial⟩) (ih _ _ _ _ h)
set_option maxRecDepth 20000 in
theorem s_VectorSolverModel_allAlike {γ : xG1} {d : Nat} {Q : xO → xS → Prop} {σ : xS} {a1 : Int32} (h : wp_VectorSolverModel_allAlike Q σ a1) : xM (SHP, γ) Y_VectorSolverModel_allAlike (d + 2) [.ref 50, .int a1] σ Q := by
  refine xM.of (by decide) (Nat.le_of_ble_eq_true rfl) ?_
  refine xJ.iconst (v := 1) (o_VectorSolverModel_allAlike 0 rfl) (by decide) ?_
  refine xJ.istore_n (o_VectorSolverModel_allAlike 1 rfl) (by decide) ?_
  refine xJ.iload_n (o_VectorSolverModel_allAlike 2 rfl) rfl ?_
  refine xJ.istore_n (o_VectorSolverModel_allAlike 3 rfl) (by decide) ?_
  obtain ⟨m, h⟩ := h
  exact xJ.lvs (by exact ⟨rfl, rfl, rfl, rfl, trivial⟩) (sw_VectorSolverModel_allAlike_4 m _ _ _ _ h)
def w_VectorSolverModel_fits_305 (Q : xO → xS → Prop) (a1 : Int32) (t0 : Int32) (σ : xS) : Prop :=
  ((¬ a1 = 34 → ((t0 = 0 → Q (.inl (some (.int 0))) σ) ∧ (¬ t0 = 0 → wp_VectorSolverModel_isVector (xqi (fun r18 u17 => ((r18 = 0 → Q (.inl (some (.int 0))) u17) ∧ (¬ r18 = 0 → wp_VectorSolverModel_widthOf (xqi (fun r20 u19 => wp_VectorSolverModel_widthOf (xqi (fun r22 u21 => ((¬ r20 = r22 → Q (.inl (some (.int 0))) u21) ∧ (r20 = r22 → wp_VectorSolverModel_indexOf (xqi (fun r24 u23 => wp_VectorSolverModel_widthOf (xqi (fun r26 u25 => wp_VectorSolverModel_gets (xqi (fun r28 u27 => ((r28 = 0 → Q (.inl (some (.int 0))) u27) ∧ (¬ r28 = 0 → Q (.inl (some (.int 1))) u27))) (fun n u => Q (.inr n) u)) u25 r24 r26) (fun n u => Q (.inr n) u)) u23 0) (fun n u => Q (.inr n) u)) u21 0))) (fun n u => Q (.inr n) u)) u19 0) (fun n u => Q (.inr n) u)) u17 2))) (fun n u => Q (.inr n) u)) σ 2))) ∧ (a1 = 34 → ((t0 = 0 → Q (.inl (some (.int 0))) σ) ∧ (¬ t0 = 0 → wp_VectorSolverModel_widthOf (xqi (fun r30 u29 => wp_VectorSolverModel_gets (xqi (fun r32 u31 => ((r32 = 0 → Q (.inl (some (.int 0))) u31) ∧ (¬ r32 = 0 → Q (.inl (some (.int 1))) u31))) (fun n u => Q (.inr n) u)) u29 0 r30) (fun n u => Q (.inr n) u)) σ 0))))
def w_VectorSolverModel_fits_304 (Q : xO → xS → Prop) (a1 : Int32) (σ : xS) : Prop :=
  w_VectorSolverModel_fits_305 Q a1 0 σ
def w_VectorSolverModel_fits_224 (Q : xO → xS → Prop) (K192 : Int32 → Int32 → Int32 → xS → Prop) (a2 : Int32) (a4 : Int32) (t0 : Int32) (σ : xS) : Prop :=
  wp_VectorSolverModel_widthOf (xqi (fun r42 u41 => (∀ x43 : Int32, x43 = (a2 + r42) → (∀ x44 : Int32, x44 = a4 + 1 → K192 x43 t0 x44 u41))) (fun n u => Q (.inr n) u)) σ a4
def w_VectorSolverModel_fits_223 (Q : xO → xS → Prop) (K192 : Int32 → Int32 → Int32 → xS → Prop) (a2 : Int32) (a4 : Int32) (σ : xS) : Prop :=
  w_VectorSolverModel_fits_224 Q K192 a2 a4 0 σ
def w_VectorSolverModel_fits_192 (Q : xO → xS → Prop) : Nat → Int32 → Int32 → Int32 → xS → Prop
  | 0 => fun _ _ _ _ => False
  | n + 1 => fun a2 a3 a4 σ =>
    (vp_in (xi σ 50 29) 64 ∧ (((xi σ 75 (xi σ 50 29).toNatClampNeg) ≤ a4 → ((a3 = 0 → Q (.inl (some (.int 0))) σ) ∧ (¬ a3 = 0 → ((64 < a2 → Q (.inl (some (.int 0))) σ) ∧ (¬ 64 < a2 → wp_VectorSolverModel_gets (xqi (fun r40 u39 => ((r40 = 0 → Q (.inl (some (.int 0))) u39) ∧ (¬ r40 = 0 → Q (.inl (some (.int 1))) u39))) (fun n u => Q (.inr n) u)) σ 0 a2))))) ∧ (¬ (xi σ 75 (xi σ 50 29).toNatClampNeg) ≤ a4 → ((a3 = 0 → w_VectorSolverModel_fits_223 Q (w_VectorSolverModel_fits_192 Q n) a2 a4 σ) ∧ (¬ a3 = 0 → wp_VectorSolverModel_isVector (xqi (fun r46 u45 => ((r46 = 0 → w_VectorSolverModel_fits_223 Q (w_VectorSolverModel_fits_192 Q n) a2 a4 u45) ∧ (¬ r46 = 0 → w_VectorSolverModel_fits_224 Q (w_VectorSolverModel_fits_192 Q n) a2 a4 1 u45))) (fun n u => Q (.inr n) u)) σ a4)))))
def w_VectorSolverModel_fits_167 (Q : xO → xS → Prop) (t1 : Int32) (t2 : Int32) (σ : xS) : Prop :=
  wp_VectorSolverModel_gets (xqi (fun r52 u51 => ((r52 = 0 → Q (.inl (some (.int 0))) u51) ∧ (¬ r52 = 0 → Q (.inl (some (.int 1))) u51))) (fun n u => Q (.inr n) u)) σ t1 t2
def wp_VectorSolverModel_fits (Q : xO → xS → Prop) (σ : xS) (a1 : Int32) : Prop :=
  ((7 ≤ a1 → ((¬ a1 = 7 → ((10 ≤ a1 → ((33 ≤ a1 → ((¬ a1 = 33 → ((36 ≤ a1 → ((¬ a1 = 36 → wp_VectorSolverModel_isVector (xqi (fun r2 u1 => ((r2 = 0 → Q (.inl (some (.int 0))) u1) ∧ (¬ r2 = 0 → (vp_in (xi u1 50 29) 64 ∧ wp_VectorSolverModel_widthOf (xqi (fun r4 u3 => (((64 - r4) < (xi u1 73 (xi u1 50 29).toNatClampNeg) → Q (.inl (some (.int 0))) u3) ∧ (¬ (64 - r4) < (xi u1 73 (xi u1 50 29).toNatClampNeg) → wp_VectorSolverModel_widthOf (xqi (fun r6 u5 => (vp_in (xi u5 50 29) 64 ∧ wp_VectorSolverModel_gets (xqi (fun r8 u7 => ((r8 = 0 → Q (.inl (some (.int 0))) u7) ∧ (¬ r8 = 0 → Q (.inl (some (.int 1))) u7))) (fun n u => Q (.inr n) u)) u5 0 (r6 + (xi u5 73 (xi u5 50 29).toNatClampNeg)))) (fun n u => Q (.inr n) u)) u3 0))) (fun n u => Q (.inr n) u)) u1 0)))) (fun n u => Q (.inr n) u)) σ 0) ∧ (a1 = 36 → wp_VectorSolverModel_isVector (xqi (fun r10 u9 => ((r10 = 0 → Q (.inl (some (.int 0))) u9) ∧ (¬ r10 = 0 → (vp_in (xi u9 50 29) 64 ∧ wp_VectorSolverModel_widthOf (xqi (fun r12 u11 => ((r12 ≤ (xi u9 73 (xi u9 50 29).toNatClampNeg) → Q (.inl (some (.int 0))) u11) ∧ (¬ r12 ≤ (xi u9 73 (xi u9 50 29).toNatClampNeg) → (vp_in (xi u11 50 29) 64 ∧ (vp_in (xi u11 50 29) 64 ∧ wp_VectorSolverModel_gets (xqi (fun r14 u13 => ((r14 = 0 → Q (.inl (some (.int 0))) u13) ∧ (¬ r14 = 0 → Q (.inl (some (.int 1))) u13))) (fun n u => Q (.inr n) u)) u11 0 (((xi u11 73 (xi u11 50 29).toNatClampNeg) - (xi u11 74 (xi u11 50 29).toNatClampNeg)) + 1)))))) (fun n u => Q (.inr n) u)) u9 0)))) (fun n u => Q (.inr n) u)) σ 0))) ∧ (¬ 36 ≤ a1 → wp_VectorSolverModel_indexOf (xqi (fun r16 u15 => ((r16 ≤ 0 → w_VectorSolverModel_fits_304 Q a1 u15) ∧ (¬ r16 ≤ 0 → wp_VectorSolverModel_isVector (xqi (fun r34 u33 => ((r34 = 0 → w_VectorSolverModel_fits_304 Q a1 u33) ∧ (¬ r34 = 0 → wp_VectorSolverModel_widthOf (xqi (fun r36 u35 => wp_VectorSolverModel_indexOf (xqi (fun r38 u37 => ((¬ r36 = r38 → w_VectorSolverModel_fits_304 Q a1 u37) ∧ (r36 = r38 → w_VectorSolverModel_fits_305 Q a1 1 u37))) (fun n u => Q (.inr n) u)) u35 0) (fun n u => Q (.inr n) u)) u33 1))) (fun n u => Q (.inr n) u)) u15 1))) (fun n u => Q (.inr n) u)) σ 0))) ∧ (a1 = 33 → ∃ m, w_VectorSolverModel_fits_192 Q m 0 1 0 σ))) ∧ (¬ 33 ≤ a1 → wp_VectorSolverModel_isVector (xqi (fun r48 u47 => ((r48 = 0 → Q (.inl (some (.int 0))) u47) ∧ (¬ r48 = 0 → wp_VectorSolverModel_allAlike (xqi (fun r50 u49 => ((r50 = 0 → Q (.inl (some (.int 0))) u49) ∧ (¬ r50 = 0 → ((25 ≤ a1 → w_VectorSolverModel_fits_167 Q 0 0 u49) ∧ (¬ 25 ≤ a1 → wp_VectorSolverModel_widthOf (xqi (fun r54 u53 => w_VectorSolverModel_fits_167 Q 0 r54 u53) (fun n u => Q (.inr n) u)) u49 0))))) (fun n u => Q (.inr n) u)) u47 0))) (fun n u => Q (.inr n) u)) σ 0))) ∧ (¬ 10 ≤ a1 → wp_VectorSolverModel_allAlike (xqi (fun r56 u55 => ((r56 = 0 → Q (.inl (some (.int 0))) u55) ∧ (¬ r56 = 0 → wp_VectorSolverModel_gets (xqi (fun r58 u57 => ((r58 = 0 → Q (.inl (some (.int 0))) u57) ∧ (¬ r58 = 0 → Q (.inl (some (.int 1))) u57))) (fun n u => Q (.inr n) u)) u55 0 0))) (fun n u => Q (.inr n) u)) σ 0))) ∧ (a1 = 7 → wp_VectorSolverModel_indexOf (xqi (fun r60 u59 => ((¬ r60 = 0 → Q (.inl (some (.int 0))) u59) ∧ (r60 = 0 → wp_VectorSolverModel_widthOf (xqi (fun r62 u61 => ((¬ r62 = 0 → Q (.inl (some (.int 0))) u61) ∧ (r62 = 0 → wp_VectorSolverModel_areAlike (xqi (fun r64 u63 => ((r64 = 0 → Q (.inl (some (.int 0))) u63) ∧ (¬ r64 = 0 → wp_VectorSolverModel_indexOf (xqi (fun r66 u65 => wp_VectorSolverModel_widthOf (xqi (fun r68 u67 => wp_VectorSolverModel_gets (xqi (fun r70 u69 => ((r70 = 0 → Q (.inl (some (.int 0))) u69) ∧ (¬ r70 = 0 → Q (.inl (some (.int 1))) u69))) (fun n u => Q (.inr n) u)) u67 r66 r68) (fun n u => Q (.inr n) u)) u65 1) (fun n u => Q (.inr n) u)) u63 1))) (fun n u => Q (.inr n) u)) u61 1 2))) (fun n u => Q (.inr n) u)) u59 0))) (fun n u => Q (.inr n) u)) σ 0))) ∧ (¬ 7 ≤ a1 → wp_VectorSolverModel_allAlike (xqi (fun r72 u71 => ((r72 = 0 → Q (.inl (some (.int 0))) u71) ∧ (¬ r72 = 0 → wp_VectorSolverModel_indexOf (xqi (fun r74 u73 => ((¬ r74 = 0 → Q (.inl (some (.int 0))) u73) ∧ (r74 = 0 → wp_VectorSolverModel_widthOf (xqi (fun r76 u75 => ((¬ r76 = 0 → Q (.inl (some (.int 0))) u75) ∧ (r76 = 0 → wp_VectorSolverModel_gets (xqi (fun r78 u77 => ((r78 = 0 → Q (.inl (some (.int 0))) u77) ∧ (¬ r78 = 0 → Q (.inl (some (.int 1))) u77))) (fun n u => Q (.inr n) u)) u75 0 0))) (fun n u => Q (.inr n) u)) u73 0))) (fun n u => Q (.inr n) u)) u71 0))) (fun n u => Q (.inr n) u)) σ 0))
set_option maxRecDepth 20000 in
theorem sw_VectorSolverModel_fits_305 {γ : xG1} {d b0 : Nat} {Q : xO → xS → Prop} {a1 : Int32} {t0 : Int32} {σ : xS} (h : w_VectorSolverModel_fits_305 Q a1 t0 σ) : xJ (SHP, γ) Y_VectorSolverModel_fits (d + 3) b0 305 [(0, .ref 50), (1, .int a1)] [.int t0] σ Q := by
  refine xJ.istore_n (o_VectorSolverModel_fits 165 rfl) (by decide) ?_
  refine xJ.iload_n (o_VectorSolverModel_fits 166 rfl) rfl ?_
  refine xJ.bipush (v := 34) (o_VectorSolverModel_fits 167 rfl) (by decide) ?_
  refine xJ.icmp_ne (tgt := 335) (o_VectorSolverModel_fits 168 rfl) (by decide) (fun z => ?_) (fun z => ?_)
  · replace h := h.1 z
    refine xJ.iload_n (o_VectorSolverModel_fits 182 rfl) rfl ?_
    refine xJ.if_eq (tgt := 381) (o_VectorSolverModel_fits 183 rfl) (by decide) (fun z => ?_) (fun z => ?_)
    · replace h := h.1 z
      refine xJ.iconst (v := 0) (o_VectorSolverModel_fits 206 rfl) (by decide) ?_
      exact xJ.zreturn (o_VectorSolverModel_fits 207 rfl) rfl (Or.inl rfl) h
    · replace h := h.2 z
      refine xJ.aload_n (o_VectorSolverModel_fits 184 rfl) rfl ?_
      refine xJ.iconst (v := 2) (o_VectorSolverModel_fits 185 rfl) (by decide) ?_
      refine xJ.callV (Y' := Y_VectorSolverModel_isVector) (o_VectorSolverModel_fits 186 rfl) m_VectorSolverModel_317 y_VectorSolverModel_isVector im_VectorSolverModel_isVector se_VectorSolverModel_isVector rfl rfl (s_VectorSolverModel_isVector h) rfl rfl (Nat.le_of_ble_eq_true rfl) (fun _ hx => by cases hx) (fun v u q => ?_) (fun n u q => q)
      obtain ⟨r, rfl, h⟩ := xqi_get q
      refine xJ.if_eq (tgt := 381) (o_VectorSolverModel_fits 187 rfl) (by decide) (fun z => ?_) (fun z => ?_)
      · replace h := h.1 z
        refine xJ.iconst (v := 0) (o_VectorSolverModel_fits 206 rfl) (by decide) ?_
        exact xJ.zreturn (o_VectorSolverModel_fits 207 rfl) rfl (Or.inl rfl) h
      · replace h := h.2 z
        refine xJ.aload_n (o_VectorSolverModel_fits 188 rfl) rfl ?_
        refine xJ.iconst (v := 2) (o_VectorSolverModel_fits 189 rfl) (by decide) ?_
        refine xJ.callV (Y' := Y_VectorSolverModel_widthOf) (o_VectorSolverModel_fits 190 rfl) m_VectorSolverModel_299 y_VectorSolverModel_widthOf im_VectorSolverModel_widthOf se_VectorSolverModel_widthOf rfl rfl (s_VectorSolverModel_widthOf h) rfl rfl (Nat.le_of_ble_eq_true rfl) (fun _ hx => by cases hx) (fun v u q => ?_) (fun n u q => q)
        obtain ⟨r, rfl, h⟩ := xqi_get q
        refine xJ.aload_n (o_VectorSolverModel_fits 191 rfl) rfl ?_
        refine xJ.iconst (v := 0) (o_VectorSolverModel_fits 192 rfl) (by decide) ?_
        refine xJ.callV (Y' := Y_VectorSolverModel_widthOf) (o_VectorSolverModel_fits 193 rfl) m_VectorSolverModel_299 y_VectorSolverModel_widthOf im_VectorSolverModel_widthOf se_VectorSolverModel_widthOf rfl rfl (s_VectorSolverModel_widthOf h) rfl rfl (Nat.le_of_ble_eq_true rfl) (fun _ hx => by cases hx) (fun v u q => ?_) (fun n u q => q)
        obtain ⟨r, rfl, h⟩ := xqi_get q
        refine xJ.icmp_ne (tgt := 381) (o_VectorSolverModel_fits 194 rfl) (by decide) (fun z => ?_) (fun z => ?_)
        · replace h := h.1 z
          refine xJ.iconst (v := 0) (o_VectorSolverModel_fits 206 rfl) (by decide) ?_
          exact xJ.zreturn (o_VectorSolverModel_fits 207 rfl) rfl (Or.inl rfl) h
        · replace h := h.2 z
          refine xJ.aload_n (o_VectorSolverModel_fits 195 rfl) rfl ?_
          refine xJ.aload_n (o_VectorSolverModel_fits 196 rfl) rfl ?_
          refine xJ.iconst (v := 0) (o_VectorSolverModel_fits 197 rfl) (by decide) ?_
          refine xJ.callV (Y' := Y_VectorSolverModel_indexOf) (o_VectorSolverModel_fits 198 rfl) m_VectorSolverModel_296 y_VectorSolverModel_indexOf im_VectorSolverModel_indexOf se_VectorSolverModel_indexOf rfl rfl (s_VectorSolverModel_indexOf h) rfl rfl (Nat.le_of_ble_eq_true rfl) (fun _ hx => by cases hx) (fun v u q => ?_) (fun n u q => q)
          obtain ⟨r, rfl, h⟩ := xqi_get q
          refine xJ.aload_n (o_VectorSolverModel_fits 199 rfl) rfl ?_
          refine xJ.iconst (v := 0) (o_VectorSolverModel_fits 200 rfl) (by decide) ?_
          refine xJ.callV (Y' := Y_VectorSolverModel_widthOf) (o_VectorSolverModel_fits 201 rfl) m_VectorSolverModel_299 y_VectorSolverModel_widthOf im_VectorSolverModel_widthOf se_VectorSolverModel_widthOf rfl rfl (s_VectorSolverModel_widthOf h) rfl rfl (Nat.le_of_ble_eq_true rfl) (fun _ hx => by cases hx) (fun v u q => ?_) (fun n u q => q)
          obtain ⟨r, rfl, h⟩ := xqi_get q
          refine xJ.callV (Y' := Y_VectorSolverModel_gets) (o_VectorSolverModel_fits 202 rfl) m_VectorSolverModel_314 y_VectorSolverModel_gets im_VectorSolverModel_gets se_VectorSolverModel_gets rfl rfl (s_VectorSolverModel_gets h) rfl rfl (Nat.le_of_ble_eq_true rfl) (fun _ hx => by cases hx) (fun v u q => ?_) (fun n u q => q)
          obtain ⟨r, rfl, h⟩ := xqi_get q
          refine xJ.if_eq (tgt := 381) (o_VectorSolverModel_fits 203 rfl) (by decide) (fun z => ?_) (fun z => ?_)
          · replace h := h.1 z
            refine xJ.iconst (v := 0) (o_VectorSolverModel_fits 206 rfl) (by decide) ?_
            exact xJ.zreturn (o_VectorSolverModel_fits 207 rfl) rfl (Or.inl rfl) h
          · replace h := h.2 z
            refine xJ.iconst (v := 1) (o_VectorSolverModel_fits 204 rfl) (by decide) ?_
            refine xJ.goto (tgt := 382) (o_VectorSolverModel_fits 205 rfl) (by decide) ?_
            exact xJ.zreturn (o_VectorSolverModel_fits 207 rfl) rfl (Or.inr rfl) h
  · replace h := h.2 z
    refine xJ.iload_n (o_VectorSolverModel_fits 169 rfl) rfl ?_
    refine xJ.if_eq (tgt := 333) (o_VectorSolverModel_fits 170 rfl) (by decide) (fun z => ?_) (fun z => ?_)
    · replace h := h.1 z
      refine xJ.iconst (v := 0) (o_VectorSolverModel_fits 180 rfl) (by decide) ?_
      exact xJ.zreturn (o_VectorSolverModel_fits 181 rfl) rfl (Or.inl rfl) h
    · replace h := h.2 z
      refine xJ.aload_n (o_VectorSolverModel_fits 171 rfl) rfl ?_
      refine xJ.iconst (v := 0) (o_VectorSolverModel_fits 172 rfl) (by decide) ?_
      refine xJ.aload_n (o_VectorSolverModel_fits 173 rfl) rfl ?_
      refine xJ.iconst (v := 0) (o_VectorSolverModel_fits 174 rfl) (by decide) ?_
      refine xJ.callV (Y' := Y_VectorSolverModel_widthOf) (o_VectorSolverModel_fits 175 rfl) m_VectorSolverModel_299 y_VectorSolverModel_widthOf im_VectorSolverModel_widthOf se_VectorSolverModel_widthOf rfl rfl (s_VectorSolverModel_widthOf h) rfl rfl (Nat.le_of_ble_eq_true rfl) (fun _ hx => by cases hx) (fun v u q => ?_) (fun n u q => q)
      obtain ⟨r, rfl, h⟩ := xqi_get q
      refine xJ.callV (Y' := Y_VectorSolverModel_gets) (o_VectorSolverModel_fits 176 rfl) m_VectorSolverModel_314 y_VectorSolverModel_gets im_VectorSolverModel_gets se_VectorSolverModel_gets rfl rfl (s_VectorSolverModel_gets h) rfl rfl (Nat.le_of_ble_eq_true rfl) (fun _ hx => by cases hx) (fun v u q => ?_) (fun n u q => q)
      obtain ⟨r, rfl, h⟩ := xqi_get q
      refine xJ.if_eq (tgt := 333) (o_VectorSolverModel_fits 177 rfl) (by decide) (fun z => ?_) (fun z => ?_)
      · replace h := h.1 z
        refine xJ.iconst (v := 0) (o_VectorSolverModel_fits 180 rfl) (by decide) ?_
        exact xJ.zreturn (o_VectorSolverModel_fits 181 rfl) rfl (Or.inl rfl) h
      · replace h := h.2 z
        refine xJ.iconst (v := 1) (o_VectorSolverModel_fits 178 rfl) (by decide) ?_
        refine xJ.goto (tgt := 334) (o_VectorSolverModel_fits 179 rfl) (by decide) ?_
        exact xJ.zreturn (o_VectorSolverModel_fits 181 rfl) rfl (Or.inr rfl) h
set_option maxRecDepth 20000 in
theorem sw_VectorSolverModel_fits_304 {γ : xG1} {d b0 : Nat} {Q : xO → xS → Prop} {a1 : Int32} {σ : xS} (h : w_VectorSolverModel_fits_304 Q a1 σ) : xJ (SHP, γ) Y_VectorSolverModel_fits (d + 3) b0 304 [(0, .ref 50), (1, .int a1)] [] σ Q := by
  refine xJ.iconst (v := 0) (o_VectorSolverModel_fits 164 rfl) (by decide) ?_
  exact xJ.lvs (by exact ⟨rfl, rfl, trivial⟩) (sw_VectorSolverModel_fits_305 h)
set_option maxRecDepth 20000 in
theorem sw_VectorSolverModel_fits_224 {γ : xG1} {d b0 : Nat} {Q : xO → xS → Prop} {K192 : Int32 → Int32 → Int32 → xS → Prop} (hK192 : ∀ a2 a3 a4 σ, K192 a2 a3 a4 σ → xJ (SHP, γ) Y_VectorSolverModel_fits (d + 3) b0 192 [(0, .ref 50), (2, .int a2), (3, .int a3), (4, .int a4)] [] σ Q) {a2 : Int32} {a4 : Int32} {t0 : Int32} {σ : xS} (h : w_VectorSolverModel_fits_224 Q K192 a2 a4 t0 σ) : xJ (SHP, γ) Y_VectorSolverModel_fits (d + 3) b0 224 [(0, .ref 50), (2, .int a2), (4, .int a4)] [.int t0] σ Q := by
  refine xJ.istore_n (o_VectorSolverModel_fits 121 rfl) (by decide) ?_
  refine xJ.iload_n (o_VectorSolverModel_fits 122 rfl) rfl ?_
  refine xJ.aload_n (o_VectorSolverModel_fits 123 rfl) rfl ?_
  refine xJ.iload (o_VectorSolverModel_fits 124 rfl) rfl ?_
  refine xJ.callV (Y' := Y_VectorSolverModel_widthOf) (o_VectorSolverModel_fits 125 rfl) m_VectorSolverModel_299 y_VectorSolverModel_widthOf im_VectorSolverModel_widthOf se_VectorSolverModel_widthOf rfl rfl (s_VectorSolverModel_widthOf h) rfl rfl (Nat.le_of_ble_eq_true rfl) (fun _ hx => by cases hx) (fun v u q => ?_) (fun n u q => q)
  obtain ⟨r, rfl, h⟩ := xqi_get q
  refine xJ.iadd (o_VectorSolverModel_fits 126 rfl) ?_
  refine xJ.istore_n (o_VectorSolverModel_fits 127 rfl) (by decide) ?_
  replace h := h _ rfl
  refine xJ.iincC (w := 1) (o_VectorSolverModel_fits 128 rfl) rfl (by decide) (by decide) ?_
  replace h := h _ rfl
  refine xJ.goto (tgt := 192) (o_VectorSolverModel_fits 129 rfl) (by decide) ?_
  exact xJ.lvs (by exact ⟨rfl, rfl, rfl, rfl, trivial⟩) (hK192 _ _ _ _ h)
set_option maxRecDepth 20000 in
theorem sw_VectorSolverModel_fits_223 {γ : xG1} {d b0 : Nat} {Q : xO → xS → Prop} {K192 : Int32 → Int32 → Int32 → xS → Prop} (hK192 : ∀ a2 a3 a4 σ, K192 a2 a3 a4 σ → xJ (SHP, γ) Y_VectorSolverModel_fits (d + 3) b0 192 [(0, .ref 50), (2, .int a2), (3, .int a3), (4, .int a4)] [] σ Q) {a2 : Int32} {a4 : Int32} {σ : xS} (h : w_VectorSolverModel_fits_223 Q K192 a2 a4 σ) : xJ (SHP, γ) Y_VectorSolverModel_fits (d + 3) b0 223 [(0, .ref 50), (2, .int a2), (4, .int a4)] [] σ Q := by
  refine xJ.iconst (v := 0) (o_VectorSolverModel_fits 120 rfl) (by decide) ?_
  exact xJ.lvs (by exact ⟨rfl, rfl, rfl, trivial⟩) (sw_VectorSolverModel_fits_224 hK192 h)
set_option maxRecDepth 20000 in
theorem sw_VectorSolverModel_fits_192 {γ : xG1} {d b0 : Nat} {Q : xO → xS → Prop} : ∀ (n : Nat) (a2 : Int32) (a3 : Int32) (a4 : Int32) (σ : xS), w_VectorSolverModel_fits_192 Q n a2 a3 a4 σ → xJ (SHP, γ) Y_VectorSolverModel_fits (d + 3) b0 192 [(0, .ref 50), (2, .int a2), (3, .int a3), (4, .int a4)] [] σ Q := by
  intro n
  induction n with
  | zero => intro a2 a3 a4 σ h; exact h.elim
  | succ n ih =>
    intro a2 a3 a4 σ h
    refine xJ.iload (o_VectorSolverModel_fits 105 rfl) rfl ?_
    refine xJ.aload_n (o_VectorSolverModel_fits 106 rfl) rfl ?_
    refine xJ.getfield (o_VectorSolverModel_fits 107 rfl) f_VectorSolverModel_97 rfl rfl ?_
    refine xJ.aload_n (o_VectorSolverModel_fits 108 rfl) rfl ?_
    refine xJ.getfield (o_VectorSolverModel_fits 109 rfl) f_VectorSolverModel_264 rfl rfl ?_
    refine xJ.iaload (o_VectorSolverModel_fits 110 rfl) rfl h.1 ?_
    replace h := h.2
    refine xJ.icmp_ge (tgt := 240) (o_VectorSolverModel_fits 111 rfl) (by decide) (fun z => ?_) (fun z => ?_)
    · replace h := h.1 z
      refine xJ.iload_n (o_VectorSolverModel_fits 130 rfl) rfl ?_
      refine xJ.if_eq (tgt := 263) (o_VectorSolverModel_fits 131 rfl) (by decide) (fun z => ?_) (fun z => ?_)
      · replace h := h.1 z
        refine xJ.iconst (v := 0) (o_VectorSolverModel_fits 142 rfl) (by decide) ?_
        exact xJ.zreturn (o_VectorSolverModel_fits 143 rfl) rfl (Or.inl rfl) h
      · replace h := h.2 z
        refine xJ.iload_n (o_VectorSolverModel_fits 132 rfl) rfl ?_
        refine xJ.bipush (v := 64) (o_VectorSolverModel_fits 133 rfl) (by decide) ?_
        refine xJ.icmp_gt (tgt := 263) (o_VectorSolverModel_fits 134 rfl) (by decide) (fun z => ?_) (fun z => ?_)
        · replace h := h.1 z
          refine xJ.iconst (v := 0) (o_VectorSolverModel_fits 142 rfl) (by decide) ?_
          exact xJ.zreturn (o_VectorSolverModel_fits 143 rfl) rfl (Or.inl rfl) h
        · replace h := h.2 z
          refine xJ.aload_n (o_VectorSolverModel_fits 135 rfl) rfl ?_
          refine xJ.iconst (v := 0) (o_VectorSolverModel_fits 136 rfl) (by decide) ?_
          refine xJ.iload_n (o_VectorSolverModel_fits 137 rfl) rfl ?_
          refine xJ.callV (Y' := Y_VectorSolverModel_gets) (o_VectorSolverModel_fits 138 rfl) m_VectorSolverModel_314 y_VectorSolverModel_gets im_VectorSolverModel_gets se_VectorSolverModel_gets rfl rfl (s_VectorSolverModel_gets h) rfl rfl (Nat.le_of_ble_eq_true rfl) (fun _ hx => by cases hx) (fun v u q => ?_) (fun n u q => q)
          obtain ⟨r, rfl, h⟩ := xqi_get q
          refine xJ.if_eq (tgt := 263) (o_VectorSolverModel_fits 139 rfl) (by decide) (fun z => ?_) (fun z => ?_)
          · replace h := h.1 z
            refine xJ.iconst (v := 0) (o_VectorSolverModel_fits 142 rfl) (by decide) ?_
            exact xJ.zreturn (o_VectorSolverModel_fits 143 rfl) rfl (Or.inl rfl) h
          · replace h := h.2 z
            refine xJ.iconst (v := 1) (o_VectorSolverModel_fits 140 rfl) (by decide) ?_
            refine xJ.goto (tgt := 264) (o_VectorSolverModel_fits 141 rfl) (by decide) ?_
            exact xJ.zreturn (o_VectorSolverModel_fits 143 rfl) rfl (Or.inr rfl) h
    · replace h := h.2 z
      refine xJ.iload_n (o_VectorSolverModel_fits 112 rfl) rfl ?_
      refine xJ.if_eq (tgt := 223) (o_VectorSolverModel_fits 113 rfl) (by decide) (fun z => ?_) (fun z => ?_)
      · replace h := h.1 z
        exact xJ.lvs (by exact ⟨rfl, rfl, rfl, trivial⟩) (sw_VectorSolverModel_fits_223 ih h)
      · replace h := h.2 z
        refine xJ.aload_n (o_VectorSolverModel_fits 114 rfl) rfl ?_
        refine xJ.iload (o_VectorSolverModel_fits 115 rfl) rfl ?_
        refine xJ.callV (Y' := Y_VectorSolverModel_isVector) (o_VectorSolverModel_fits 116 rfl) m_VectorSolverModel_317 y_VectorSolverModel_isVector im_VectorSolverModel_isVector se_VectorSolverModel_isVector rfl rfl (s_VectorSolverModel_isVector h) rfl rfl (Nat.le_of_ble_eq_true rfl) (fun _ hx => by cases hx) (fun v u q => ?_) (fun n u q => q)
        obtain ⟨r, rfl, h⟩ := xqi_get q
        refine xJ.if_eq (tgt := 223) (o_VectorSolverModel_fits 117 rfl) (by decide) (fun z => ?_) (fun z => ?_)
        · replace h := h.1 z
          exact xJ.lvs (by exact ⟨rfl, rfl, rfl, trivial⟩) (sw_VectorSolverModel_fits_223 ih h)
        · replace h := h.2 z
          refine xJ.iconst (v := 1) (o_VectorSolverModel_fits 118 rfl) (by decide) ?_
          refine xJ.goto (tgt := 224) (o_VectorSolverModel_fits 119 rfl) (by decide) ?_
          exact xJ.lvs (by exact ⟨rfl, rfl, rfl, trivial⟩) (sw_VectorSolverModel_fits_224 ih h)
set_option maxRecDepth 20000 in
theorem sw_VectorSolverModel_fits_167 {γ : xG1} {d b0 : Nat} {Q : xO → xS → Prop} {t1 : Int32} {t2 : Int32} {σ : xS} (h : w_VectorSolverModel_fits_167 Q t1 t2 σ) : xJ (SHP, γ) Y_VectorSolverModel_fits (d + 3) b0 167 [] [.int t2, .int t1, .ref 50] σ Q := by
  refine xJ.callV (Y' := Y_VectorSolverModel_gets) (o_VectorSolverModel_fits 90 rfl) m_VectorSolverModel_314 y_VectorSolverModel_gets im_VectorSolverModel_gets se_VectorSolverModel_gets rfl rfl (s_VectorSolverModel_gets h) rfl rfl (Nat.le_of_ble_eq_true rfl) (fun _ hx => by cases hx) (fun v u q => ?_) (fun n u q => q)
  obtain ⟨r, rfl, h⟩ := xqi_get q
  refine xJ.if_eq (tgt := 177) (o_VectorSolverModel_fits 91 rfl) (by decide) (fun z => ?_) (fun z => ?_)
  · replace h := h.1 z
    refine xJ.iconst (v := 0) (o_VectorSolverModel_fits 94 rfl) (by decide) ?_
    exact xJ.zreturn (o_VectorSolverModel_fits 95 rfl) rfl (Or.inl rfl) h
  · replace h := h.2 z
    refine xJ.iconst (v := 1) (o_VectorSolverModel_fits 92 rfl) (by decide) ?_
    refine xJ.goto (tgt := 178) (o_VectorSolverModel_fits 93 rfl) (by decide) ?_
    exact xJ.zreturn (o_VectorSolverModel_fits 95 rfl) rfl (Or.inr rfl) h
set_option maxRecDepth 20000 in
theorem s_VectorSolverModel_fits {γ : xG1} {d : Nat} {Q : xO → xS → Prop} {σ : xS} {a1 : Int32} (h : wp_VectorSolverModel_fits Q σ a1) : xM (SHP, γ) Y_VectorSolverModel_fits (d + 3) [.ref 50, .int a1] σ Q := by
  refine xM.of (by decide) (Nat.le_of_ble_eq_true rfl) ?_
  refine xJ.iload_n (o_VectorSolverModel_fits 0 rfl) rfl ?_
  refine xJ.bipush (v := 7) (o_VectorSolverModel_fits 1 rfl) (by decide) ?_
  refine xJ.icmp_ge (tgt := 45) (o_VectorSolverModel_fits 2 rfl) (by decide) (fun z => ?_) (fun z => ?_)
  · replace h := h.1 z
    refine xJ.iload_n (o_VectorSolverModel_fits 24 rfl) rfl ?_
    refine xJ.bipush (v := 7) (o_VectorSolverModel_fits 25 rfl) (by decide) ?_
    refine xJ.icmp_ne (tgt := 99) (o_VectorSolverModel_fits 26 rfl) (by decide) (fun z => ?_) (fun z => ?_)
    · replace h := h.1 z
      refine xJ.iload_n (o_VectorSolverModel_fits 53 rfl) rfl ?_
      refine xJ.bipush (v := 10) (o_VectorSolverModel_fits 54 rfl) (by decide) ?_
      refine xJ.icmp_ge (tgt := 128) (o_VectorSolverModel_fits 55 rfl) (by decide) (fun z => ?_) (fun z => ?_)
      · replace h := h.1 z
        refine xJ.iload_n (o_VectorSolverModel_fits 69 rfl) rfl ?_
        refine xJ.bipush (v := 33) (o_VectorSolverModel_fits 70 rfl) (by decide) ?_
        refine xJ.icmp_ge (tgt := 179) (o_VectorSolverModel_fits 71 rfl) (by decide) (fun z => ?_) (fun z => ?_)
        · replace h := h.1 z
          refine xJ.iload_n (o_VectorSolverModel_fits 96 rfl) rfl ?_
          refine xJ.bipush (v := 33) (o_VectorSolverModel_fits 97 rfl) (by decide) ?_
          refine xJ.icmp_ne (tgt := 265) (o_VectorSolverModel_fits 98 rfl) (by decide) (fun z => ?_) (fun z => ?_)
          · replace h := h.1 z
            refine xJ.iload_n (o_VectorSolverModel_fits 144 rfl) rfl ?_
            refine xJ.bipush (v := 36) (o_VectorSolverModel_fits 145 rfl) (by decide) ?_
            refine xJ.icmp_ge (tgt := 383) (o_VectorSolverModel_fits 146 rfl) (by decide) (fun z => ?_) (fun z => ?_)
            · replace h := h.1 z
              refine xJ.iload_n (o_VectorSolverModel_fits 208 rfl) rfl ?_
              refine xJ.bipush (v := 36) (o_VectorSolverModel_fits 209 rfl) (by decide) ?_
              refine xJ.icmp_ne (tgt := 449) (o_VectorSolverModel_fits 210 rfl) (by decide) (fun z => ?_) (fun z => ?_)
              · replace h := h.1 z
                refine xJ.aload_n (o_VectorSolverModel_fits 245 rfl) rfl ?_
                refine xJ.iconst (v := 0) (o_VectorSolverModel_fits 246 rfl) (by decide) ?_
                refine xJ.callV (Y' := Y_VectorSolverModel_isVector) (o_VectorSolverModel_fits 247 rfl) m_VectorSolverModel_317 y_VectorSolverModel_isVector im_VectorSolverModel_isVector se_VectorSolverModel_isVector rfl rfl (s_VectorSolverModel_isVector h) rfl rfl (Nat.le_of_ble_eq_true rfl) (fun _ hx => by cases hx) (fun v u q => ?_) (fun n u q => q)
                obtain ⟨r, rfl, h⟩ := xqi_get q
                refine xJ.if_eq (tgt := 504) (o_VectorSolverModel_fits 248 rfl) (by decide) (fun z => ?_) (fun z => ?_)
                · replace h := h.1 z
                  refine xJ.iconst (v := 0) (o_VectorSolverModel_fits 275 rfl) (by decide) ?_
                  exact xJ.zreturn (o_VectorSolverModel_fits 276 rfl) rfl (Or.inl rfl) h
                · replace h := h.2 z
                  refine xJ.aload_n (o_VectorSolverModel_fits 249 rfl) rfl ?_
                  refine xJ.getfield (o_VectorSolverModel_fits 250 rfl) f_VectorSolverModel_91 rfl rfl ?_
                  refine xJ.aload_n (o_VectorSolverModel_fits 251 rfl) rfl ?_
                  refine xJ.getfield (o_VectorSolverModel_fits 252 rfl) f_VectorSolverModel_264 rfl rfl ?_
                  refine xJ.iaload (o_VectorSolverModel_fits 253 rfl) rfl h.1 ?_
                  replace h := h.2
                  refine xJ.bipush (v := 64) (o_VectorSolverModel_fits 254 rfl) (by decide) ?_
                  refine xJ.aload_n (o_VectorSolverModel_fits 255 rfl) rfl ?_
                  refine xJ.iconst (v := 0) (o_VectorSolverModel_fits 256 rfl) (by decide) ?_
                  refine xJ.callV (Y' := Y_VectorSolverModel_widthOf) (o_VectorSolverModel_fits 257 rfl) m_VectorSolverModel_299 y_VectorSolverModel_widthOf im_VectorSolverModel_widthOf se_VectorSolverModel_widthOf rfl rfl (s_VectorSolverModel_widthOf h) rfl rfl (Nat.le_of_ble_eq_true rfl) (fun _ hx => by cases hx) (fun v u q => ?_) (fun n u q => q)
                  obtain ⟨r, rfl, h⟩ := xqi_get q
                  refine xJ.isub (o_VectorSolverModel_fits 258 rfl) ?_
                  refine xJ.icmp_gt (tgt := 504) (o_VectorSolverModel_fits 259 rfl) (by decide) (fun z => ?_) (fun z => ?_)
                  · replace h := h.1 z
                    refine xJ.iconst (v := 0) (o_VectorSolverModel_fits 275 rfl) (by decide) ?_
                    exact xJ.zreturn (o_VectorSolverModel_fits 276 rfl) rfl (Or.inl rfl) h
                  · replace h := h.2 z
                    refine xJ.aload_n (o_VectorSolverModel_fits 260 rfl) rfl ?_
                    refine xJ.iconst (v := 0) (o_VectorSolverModel_fits 261 rfl) (by decide) ?_
                    refine xJ.aload_n (o_VectorSolverModel_fits 262 rfl) rfl ?_
                    refine xJ.iconst (v := 0) (o_VectorSolverModel_fits 263 rfl) (by decide) ?_
                    refine xJ.callV (Y' := Y_VectorSolverModel_widthOf) (o_VectorSolverModel_fits 264 rfl) m_VectorSolverModel_299 y_VectorSolverModel_widthOf im_VectorSolverModel_widthOf se_VectorSolverModel_widthOf rfl rfl (s_VectorSolverModel_widthOf h) rfl rfl (Nat.le_of_ble_eq_true rfl) (fun _ hx => by cases hx) (fun v u q => ?_) (fun n u q => q)
                    obtain ⟨r, rfl, h⟩ := xqi_get q
                    refine xJ.aload_n (o_VectorSolverModel_fits 265 rfl) rfl ?_
                    refine xJ.getfield (o_VectorSolverModel_fits 266 rfl) f_VectorSolverModel_91 rfl rfl ?_
                    refine xJ.aload_n (o_VectorSolverModel_fits 267 rfl) rfl ?_
                    refine xJ.getfield (o_VectorSolverModel_fits 268 rfl) f_VectorSolverModel_264 rfl rfl ?_
                    refine xJ.iaload (o_VectorSolverModel_fits 269 rfl) rfl h.1 ?_
                    replace h := h.2
                    refine xJ.iadd (o_VectorSolverModel_fits 270 rfl) ?_
                    refine xJ.callV (Y' := Y_VectorSolverModel_gets) (o_VectorSolverModel_fits 271 rfl) m_VectorSolverModel_314 y_VectorSolverModel_gets im_VectorSolverModel_gets se_VectorSolverModel_gets rfl rfl (s_VectorSolverModel_gets h) rfl rfl (Nat.le_of_ble_eq_true rfl) (fun _ hx => by cases hx) (fun v u q => ?_) (fun n u q => q)
                    obtain ⟨r, rfl, h⟩ := xqi_get q
                    refine xJ.if_eq (tgt := 504) (o_VectorSolverModel_fits 272 rfl) (by decide) (fun z => ?_) (fun z => ?_)
                    · replace h := h.1 z
                      refine xJ.iconst (v := 0) (o_VectorSolverModel_fits 275 rfl) (by decide) ?_
                      exact xJ.zreturn (o_VectorSolverModel_fits 276 rfl) rfl (Or.inl rfl) h
                    · replace h := h.2 z
                      refine xJ.iconst (v := 1) (o_VectorSolverModel_fits 273 rfl) (by decide) ?_
                      refine xJ.goto (tgt := 505) (o_VectorSolverModel_fits 274 rfl) (by decide) ?_
                      exact xJ.zreturn (o_VectorSolverModel_fits 276 rfl) rfl (Or.inr rfl) h
              · replace h := h.2 z
                refine xJ.aload_n (o_VectorSolverModel_fits 211 rfl) rfl ?_
                refine xJ.iconst (v := 0) (o_VectorSolverModel_fits 212 rfl) (by decide) ?_
                refine xJ.callV (Y' := Y_VectorSolverModel_isVector) (o_VectorSolverModel_fits 213 rfl) m_VectorSolverModel_317 y_VectorSolverModel_isVector im_VectorSolverModel_isVector se_VectorSolverModel_isVector rfl rfl (s_VectorSolverModel_isVector h) rfl rfl (Nat.le_of_ble_eq_true rfl) (fun _ hx => by cases hx) (fun v u q => ?_) (fun n u q => q)
                obtain ⟨r, rfl, h⟩ := xqi_get q
                refine xJ.if_eq (tgt := 447) (o_VectorSolverModel_fits 214 rfl) (by decide) (fun z => ?_) (fun z => ?_)
                · replace h := h.1 z
                  refine xJ.iconst (v := 0) (o_VectorSolverModel_fits 243 rfl) (by decide) ?_
                  exact xJ.zreturn (o_VectorSolverModel_fits 244 rfl) rfl (Or.inl rfl) h
                · replace h := h.2 z
                  refine xJ.aload_n (o_VectorSolverModel_fits 215 rfl) rfl ?_
                  refine xJ.getfield (o_VectorSolverModel_fits 216 rfl) f_VectorSolverModel_91 rfl rfl ?_
                  refine xJ.aload_n (o_VectorSolverModel_fits 217 rfl) rfl ?_
                  refine xJ.getfield (o_VectorSolverModel_fits 218 rfl) f_VectorSolverModel_264 rfl rfl ?_
                  refine xJ.iaload (o_VectorSolverModel_fits 219 rfl) rfl h.1 ?_
                  replace h := h.2
                  refine xJ.aload_n (o_VectorSolverModel_fits 220 rfl) rfl ?_
                  refine xJ.iconst (v := 0) (o_VectorSolverModel_fits 221 rfl) (by decide) ?_
                  refine xJ.callV (Y' := Y_VectorSolverModel_widthOf) (o_VectorSolverModel_fits 222 rfl) m_VectorSolverModel_299 y_VectorSolverModel_widthOf im_VectorSolverModel_widthOf se_VectorSolverModel_widthOf rfl rfl (s_VectorSolverModel_widthOf h) rfl rfl (Nat.le_of_ble_eq_true rfl) (fun _ hx => by cases hx) (fun v u q => ?_) (fun n u q => q)
                  obtain ⟨r, rfl, h⟩ := xqi_get q
                  refine xJ.icmp_ge (tgt := 447) (o_VectorSolverModel_fits 223 rfl) (by decide) (fun z => ?_) (fun z => ?_)
                  · replace h := h.1 z
                    refine xJ.iconst (v := 0) (o_VectorSolverModel_fits 243 rfl) (by decide) ?_
                    exact xJ.zreturn (o_VectorSolverModel_fits 244 rfl) rfl (Or.inl rfl) h
                  · replace h := h.2 z
                    refine xJ.aload_n (o_VectorSolverModel_fits 224 rfl) rfl ?_
                    refine xJ.iconst (v := 0) (o_VectorSolverModel_fits 225 rfl) (by decide) ?_
                    refine xJ.aload_n (o_VectorSolverModel_fits 226 rfl) rfl ?_
                    refine xJ.getfield (o_VectorSolverModel_fits 227 rfl) f_VectorSolverModel_91 rfl rfl ?_
                    refine xJ.aload_n (o_VectorSolverModel_fits 228 rfl) rfl ?_
                    refine xJ.getfield (o_VectorSolverModel_fits 229 rfl) f_VectorSolverModel_264 rfl rfl ?_
                    refine xJ.iaload (o_VectorSolverModel_fits 230 rfl) rfl h.1 ?_
                    replace h := h.2
                    refine xJ.aload_n (o_VectorSolverModel_fits 231 rfl) rfl ?_
                    refine xJ.getfield (o_VectorSolverModel_fits 232 rfl) f_VectorSolverModel_94 rfl rfl ?_
                    refine xJ.aload_n (o_VectorSolverModel_fits 233 rfl) rfl ?_
                    refine xJ.getfield (o_VectorSolverModel_fits 234 rfl) f_VectorSolverModel_264 rfl rfl ?_
                    refine xJ.iaload (o_VectorSolverModel_fits 235 rfl) rfl h.1 ?_
                    replace h := h.2
                    refine xJ.isub (o_VectorSolverModel_fits 236 rfl) ?_
                    refine xJ.iconst (v := 1) (o_VectorSolverModel_fits 237 rfl) (by decide) ?_
                    refine xJ.iadd (o_VectorSolverModel_fits 238 rfl) ?_
                    refine xJ.callV (Y' := Y_VectorSolverModel_gets) (o_VectorSolverModel_fits 239 rfl) m_VectorSolverModel_314 y_VectorSolverModel_gets im_VectorSolverModel_gets se_VectorSolverModel_gets rfl rfl (s_VectorSolverModel_gets h) rfl rfl (Nat.le_of_ble_eq_true rfl) (fun _ hx => by cases hx) (fun v u q => ?_) (fun n u q => q)
                    obtain ⟨r, rfl, h⟩ := xqi_get q
                    refine xJ.if_eq (tgt := 447) (o_VectorSolverModel_fits 240 rfl) (by decide) (fun z => ?_) (fun z => ?_)
                    · replace h := h.1 z
                      refine xJ.iconst (v := 0) (o_VectorSolverModel_fits 243 rfl) (by decide) ?_
                      exact xJ.zreturn (o_VectorSolverModel_fits 244 rfl) rfl (Or.inl rfl) h
                    · replace h := h.2 z
                      refine xJ.iconst (v := 1) (o_VectorSolverModel_fits 241 rfl) (by decide) ?_
                      refine xJ.goto (tgt := 448) (o_VectorSolverModel_fits 242 rfl) (by decide) ?_
                      exact xJ.zreturn (o_VectorSolverModel_fits 244 rfl) rfl (Or.inr rfl) h
            · replace h := h.2 z
              refine xJ.aload_n (o_VectorSolverModel_fits 147 rfl) rfl ?_
              refine xJ.iconst (v := 0) (o_VectorSolverModel_fits 148 rfl) (by decide) ?_
              refine xJ.callV (Y' := Y_VectorSolverModel_indexOf) (o_VectorSolverModel_fits 149 rfl) m_VectorSolverModel_296 y_VectorSolverModel_indexOf im_VectorSolverModel_indexOf se_VectorSolverModel_indexOf rfl rfl (s_VectorSolverModel_indexOf h) rfl rfl (Nat.le_of_ble_eq_true rfl) (fun _ hx => by cases hx) (fun v u q => ?_) (fun n u q => q)
              obtain ⟨r, rfl, h⟩ := xqi_get q
              refine xJ.if_le (tgt := 304) (o_VectorSolverModel_fits 150 rfl) (by decide) (fun z => ?_) (fun z => ?_)
              · replace h := h.1 z
                exact xJ.lvs (by exact ⟨rfl, rfl, trivial⟩) (sw_VectorSolverModel_fits_304 h)
              · replace h := h.2 z
                refine xJ.aload_n (o_VectorSolverModel_fits 151 rfl) rfl ?_
                refine xJ.iconst (v := 1) (o_VectorSolverModel_fits 152 rfl) (by decide) ?_
                refine xJ.callV (Y' := Y_VectorSolverModel_isVector) (o_VectorSolverModel_fits 153 rfl) m_VectorSolverModel_317 y_VectorSolverModel_isVector im_VectorSolverModel_isVector se_VectorSolverModel_isVector rfl rfl (s_VectorSolverModel_isVector h) rfl rfl (Nat.le_of_ble_eq_true rfl) (fun _ hx => by cases hx) (fun v u q => ?_) (fun n u q => q)
                obtain ⟨r, rfl, h⟩ := xqi_get q
                refine xJ.if_eq (tgt := 304) (o_VectorSolverModel_fits 154 rfl) (by decide) (fun z => ?_) (fun z => ?_)
                · replace h := h.1 z
                  exact xJ.lvs (by exact ⟨rfl, rfl, trivial⟩) (sw_VectorSolverModel_fits_304 h)
                · replace h := h.2 z
                  refine xJ.aload_n (o_VectorSolverModel_fits 155 rfl) rfl ?_
                  refine xJ.iconst (v := 1) (o_VectorSolverModel_fits 156 rfl) (by decide) ?_
                  refine xJ.callV (Y' := Y_VectorSolverModel_widthOf) (o_VectorSolverModel_fits 157 rfl) m_VectorSolverModel_299 y_VectorSolverModel_widthOf im_VectorSolverModel_widthOf se_VectorSolverModel_widthOf rfl rfl (s_VectorSolverModel_widthOf h) rfl rfl (Nat.le_of_ble_eq_true rfl) (fun _ hx => by cases hx) (fun v u q => ?_) (fun n u q => q)
                  obtain ⟨r, rfl, h⟩ := xqi_get q
                  refine xJ.aload_n (o_VectorSolverModel_fits 158 rfl) rfl ?_
                  refine xJ.iconst (v := 0) (o_VectorSolverModel_fits 159 rfl) (by decide) ?_
                  refine xJ.callV (Y' := Y_VectorSolverModel_indexOf) (o_VectorSolverModel_fits 160 rfl) m_VectorSolverModel_296 y_VectorSolverModel_indexOf im_VectorSolverModel_indexOf se_VectorSolverModel_indexOf rfl rfl (s_VectorSolverModel_indexOf h) rfl rfl (Nat.le_of_ble_eq_true rfl) (fun _ hx => by cases hx) (fun v u q => ?_) (fun n u q => q)
                  obtain ⟨r, rfl, h⟩ := xqi_get q
                  refine xJ.icmp_ne (tgt := 304) (o_VectorSolverModel_fits 161 rfl) (by decide) (fun z => ?_) (fun z => ?_)
                  · replace h := h.1 z
                    exact xJ.lvs (by exact ⟨rfl, rfl, trivial⟩) (sw_VectorSolverModel_fits_304 h)
                  · replace h := h.2 z
                    refine xJ.iconst (v := 1) (o_VectorSolverModel_fits 162 rfl) (by decide) ?_
                    refine xJ.goto (tgt := 305) (o_VectorSolverModel_fits 163 rfl) (by decide) ?_
                    exact xJ.lvs (by exact ⟨rfl, rfl, trivial⟩) (sw_VectorSolverModel_fits_305 h)
          · replace h := h.2 z
            refine xJ.iconst (v := 0) (o_VectorSolverModel_fits 99 rfl) (by decide) ?_
            refine xJ.istore_n (o_VectorSolverModel_fits 100 rfl) (by decide) ?_
            refine xJ.iconst (v := 1) (o_VectorSolverModel_fits 101 rfl) (by decide) ?_
            refine xJ.istore_n (o_VectorSolverModel_fits 102 rfl) (by decide) ?_
            refine xJ.iconst (v := 0) (o_VectorSolverModel_fits 103 rfl) (by decide) ?_
            refine xJ.istore (o_VectorSolverModel_fits 104 rfl) (by decide) ?_
            obtain ⟨m, h⟩ := h
            exact xJ.lvs (by exact ⟨rfl, rfl, rfl, rfl, trivial⟩) (sw_VectorSolverModel_fits_192 m _ _ _ _ h)
        · replace h := h.2 z
          refine xJ.aload_n (o_VectorSolverModel_fits 72 rfl) rfl ?_
          refine xJ.iconst (v := 0) (o_VectorSolverModel_fits 73 rfl) (by decide) ?_
          refine xJ.callV (Y' := Y_VectorSolverModel_isVector) (o_VectorSolverModel_fits 74 rfl) m_VectorSolverModel_317 y_VectorSolverModel_isVector im_VectorSolverModel_isVector se_VectorSolverModel_isVector rfl rfl (s_VectorSolverModel_isVector h) rfl rfl (Nat.le_of_ble_eq_true rfl) (fun _ hx => by cases hx) (fun v u q => ?_) (fun n u q => q)
          obtain ⟨r, rfl, h⟩ := xqi_get q
          refine xJ.if_eq (tgt := 177) (o_VectorSolverModel_fits 75 rfl) (by decide) (fun z => ?_) (fun z => ?_)
          · replace h := h.1 z
            refine xJ.iconst (v := 0) (o_VectorSolverModel_fits 94 rfl) (by decide) ?_
            exact xJ.zreturn (o_VectorSolverModel_fits 95 rfl) rfl (Or.inl rfl) h
          · replace h := h.2 z
            refine xJ.aload_n (o_VectorSolverModel_fits 76 rfl) rfl ?_
            refine xJ.iconst (v := 0) (o_VectorSolverModel_fits 77 rfl) (by decide) ?_
            refine xJ.callV (Y' := Y_VectorSolverModel_allAlike) (o_VectorSolverModel_fits 78 rfl) m_VectorSolverModel_311 y_VectorSolverModel_allAlike im_VectorSolverModel_allAlike se_VectorSolverModel_allAlike rfl rfl (s_VectorSolverModel_allAlike h) rfl rfl (Nat.le_of_ble_eq_true rfl) (fun _ hx => by cases hx) (fun v u q => ?_) (fun n u q => q)
            obtain ⟨r, rfl, h⟩ := xqi_get q
            refine xJ.if_eq (tgt := 177) (o_VectorSolverModel_fits 79 rfl) (by decide) (fun z => ?_) (fun z => ?_)
            · replace h := h.1 z
              refine xJ.iconst (v := 0) (o_VectorSolverModel_fits 94 rfl) (by decide) ?_
              exact xJ.zreturn (o_VectorSolverModel_fits 95 rfl) rfl (Or.inl rfl) h
            · replace h := h.2 z
              refine xJ.aload_n (o_VectorSolverModel_fits 80 rfl) rfl ?_
              refine xJ.iconst (v := 0) (o_VectorSolverModel_fits 81 rfl) (by decide) ?_
              refine xJ.iload_n (o_VectorSolverModel_fits 82 rfl) rfl ?_
              refine xJ.bipush (v := 25) (o_VectorSolverModel_fits 83 rfl) (by decide) ?_
              refine xJ.icmp_ge (tgt := 166) (o_VectorSolverModel_fits 84 rfl) (by decide) (fun z => ?_) (fun z => ?_)
              · replace h := h.1 z
                refine xJ.iconst (v := 0) (o_VectorSolverModel_fits 89 rfl) (by decide) ?_
                exact xJ.lvs (by exact trivial) (sw_VectorSolverModel_fits_167 h)
              · replace h := h.2 z
                refine xJ.aload_n (o_VectorSolverModel_fits 85 rfl) rfl ?_
                refine xJ.iconst (v := 0) (o_VectorSolverModel_fits 86 rfl) (by decide) ?_
                refine xJ.callV (Y' := Y_VectorSolverModel_widthOf) (o_VectorSolverModel_fits 87 rfl) m_VectorSolverModel_299 y_VectorSolverModel_widthOf im_VectorSolverModel_widthOf se_VectorSolverModel_widthOf rfl rfl (s_VectorSolverModel_widthOf h) rfl rfl (Nat.le_of_ble_eq_true rfl) (fun _ hx => by cases hx) (fun v u q => ?_) (fun n u q => q)
                obtain ⟨r, rfl, h⟩ := xqi_get q
                refine xJ.goto (tgt := 167) (o_VectorSolverModel_fits 88 rfl) (by decide) ?_
                exact xJ.lvs (by exact trivial) (sw_VectorSolverModel_fits_167 h)
      · replace h := h.2 z
        refine xJ.aload_n (o_VectorSolverModel_fits 56 rfl) rfl ?_
        refine xJ.iconst (v := 0) (o_VectorSolverModel_fits 57 rfl) (by decide) ?_
        refine xJ.callV (Y' := Y_VectorSolverModel_allAlike) (o_VectorSolverModel_fits 58 rfl) m_VectorSolverModel_311 y_VectorSolverModel_allAlike im_VectorSolverModel_allAlike se_VectorSolverModel_allAlike rfl rfl (s_VectorSolverModel_allAlike h) rfl rfl (Nat.le_of_ble_eq_true rfl) (fun _ hx => by cases hx) (fun v u q => ?_) (fun n u q => q)
        obtain ⟨r, rfl, h⟩ := xqi_get q
        refine xJ.if_eq (tgt := 126) (o_VectorSolverModel_fits 59 rfl) (by decide) (fun z => ?_) (fun z => ?_)
        · replace h := h.1 z
          refine xJ.iconst (v := 0) (o_VectorSolverModel_fits 67 rfl) (by decide) ?_
          exact xJ.zreturn (o_VectorSolverModel_fits 68 rfl) rfl (Or.inl rfl) h
        · replace h := h.2 z
          refine xJ.aload_n (o_VectorSolverModel_fits 60 rfl) rfl ?_
          refine xJ.iconst (v := 0) (o_VectorSolverModel_fits 61 rfl) (by decide) ?_
          refine xJ.iconst (v := 0) (o_VectorSolverModel_fits 62 rfl) (by decide) ?_
          refine xJ.callV (Y' := Y_VectorSolverModel_gets) (o_VectorSolverModel_fits 63 rfl) m_VectorSolverModel_314 y_VectorSolverModel_gets im_VectorSolverModel_gets se_VectorSolverModel_gets rfl rfl (s_VectorSolverModel_gets h) rfl rfl (Nat.le_of_ble_eq_true rfl) (fun _ hx => by cases hx) (fun v u q => ?_) (fun n u q => q)
          obtain ⟨r, rfl, h⟩ := xqi_get q
          refine xJ.if_eq (tgt := 126) (o_VectorSolverModel_fits 64 rfl) (by decide) (fun z => ?_) (fun z => ?_)
          · replace h := h.1 z
            refine xJ.iconst (v := 0) (o_VectorSolverModel_fits 67 rfl) (by decide) ?_
            exact xJ.zreturn (o_VectorSolverModel_fits 68 rfl) rfl (Or.inl rfl) h
          · replace h := h.2 z
            refine xJ.iconst (v := 1) (o_VectorSolverModel_fits 65 rfl) (by decide) ?_
            refine xJ.goto (tgt := 127) (o_VectorSolverModel_fits 66 rfl) (by decide) ?_
            exact xJ.zreturn (o_VectorSolverModel_fits 68 rfl) rfl (Or.inr rfl) h
    · replace h := h.2 z
      refine xJ.aload_n (o_VectorSolverModel_fits 27 rfl) rfl ?_
      refine xJ.iconst (v := 0) (o_VectorSolverModel_fits 28 rfl) (by decide) ?_
      refine xJ.callV (Y' := Y_VectorSolverModel_indexOf) (o_VectorSolverModel_fits 29 rfl) m_VectorSolverModel_296 y_VectorSolverModel_indexOf im_VectorSolverModel_indexOf se_VectorSolverModel_indexOf rfl rfl (s_VectorSolverModel_indexOf h) rfl rfl (Nat.le_of_ble_eq_true rfl) (fun _ hx => by cases hx) (fun v u q => ?_) (fun n u q => q)
      obtain ⟨r, rfl, h⟩ := xqi_get q
      refine xJ.if_ne (tgt := 97) (o_VectorSolverModel_fits 30 rfl) (by decide) (fun z => ?_) (fun z => ?_)
      · replace h := h.1 z
        refine xJ.iconst (v := 0) (o_VectorSolverModel_fits 51 rfl) (by decide) ?_
        exact xJ.zreturn (o_VectorSolverModel_fits 52 rfl) rfl (Or.inl rfl) h
      · replace h := h.2 z
        refine xJ.aload_n (o_VectorSolverModel_fits 31 rfl) rfl ?_
        refine xJ.iconst (v := 0) (o_VectorSolverModel_fits 32 rfl) (by decide) ?_
        refine xJ.callV (Y' := Y_VectorSolverModel_widthOf) (o_VectorSolverModel_fits 33 rfl) m_VectorSolverModel_299 y_VectorSolverModel_widthOf im_VectorSolverModel_widthOf se_VectorSolverModel_widthOf rfl rfl (s_VectorSolverModel_widthOf h) rfl rfl (Nat.le_of_ble_eq_true rfl) (fun _ hx => by cases hx) (fun v u q => ?_) (fun n u q => q)
        obtain ⟨r, rfl, h⟩ := xqi_get q
        refine xJ.if_ne (tgt := 97) (o_VectorSolverModel_fits 34 rfl) (by decide) (fun z => ?_) (fun z => ?_)
        · replace h := h.1 z
          refine xJ.iconst (v := 0) (o_VectorSolverModel_fits 51 rfl) (by decide) ?_
          exact xJ.zreturn (o_VectorSolverModel_fits 52 rfl) rfl (Or.inl rfl) h
        · replace h := h.2 z
          refine xJ.aload_n (o_VectorSolverModel_fits 35 rfl) rfl ?_
          refine xJ.iconst (v := 1) (o_VectorSolverModel_fits 36 rfl) (by decide) ?_
          refine xJ.iconst (v := 2) (o_VectorSolverModel_fits 37 rfl) (by decide) ?_
          refine xJ.callV (Y' := Y_VectorSolverModel_areAlike) (o_VectorSolverModel_fits 38 rfl) m_VectorSolverModel_302 y_VectorSolverModel_areAlike im_VectorSolverModel_areAlike se_VectorSolverModel_areAlike rfl rfl (s_VectorSolverModel_areAlike h) rfl rfl (Nat.le_of_ble_eq_true rfl) (fun _ hx => by cases hx) (fun v u q => ?_) (fun n u q => q)
          obtain ⟨r, rfl, h⟩ := xqi_get q
          refine xJ.if_eq (tgt := 97) (o_VectorSolverModel_fits 39 rfl) (by decide) (fun z => ?_) (fun z => ?_)
          · replace h := h.1 z
            refine xJ.iconst (v := 0) (o_VectorSolverModel_fits 51 rfl) (by decide) ?_
            exact xJ.zreturn (o_VectorSolverModel_fits 52 rfl) rfl (Or.inl rfl) h
          · replace h := h.2 z
            refine xJ.aload_n (o_VectorSolverModel_fits 40 rfl) rfl ?_
            refine xJ.aload_n (o_VectorSolverModel_fits 41 rfl) rfl ?_
            refine xJ.iconst (v := 1) (o_VectorSolverModel_fits 42 rfl) (by decide) ?_
            refine xJ.callV (Y' := Y_VectorSolverModel_indexOf) (o_VectorSolverModel_fits 43 rfl) m_VectorSolverModel_296 y_VectorSolverModel_indexOf im_VectorSolverModel_indexOf se_VectorSolverModel_indexOf rfl rfl (s_VectorSolverModel_indexOf h) rfl rfl (Nat.le_of_ble_eq_true rfl) (fun _ hx => by cases hx) (fun v u q => ?_) (fun n u q => q)
            obtain ⟨r, rfl, h⟩ := xqi_get q
            refine xJ.aload_n (o_VectorSolverModel_fits 44 rfl) rfl ?_
            refine xJ.iconst (v := 1) (o_VectorSolverModel_fits 45 rfl) (by decide) ?_
            refine xJ.callV (Y' := Y_VectorSolverModel_widthOf) (o_VectorSolverModel_fits 46 rfl) m_VectorSolverModel_299 y_VectorSolverModel_widthOf im_VectorSolverModel_widthOf se_VectorSolverModel_widthOf rfl rfl (s_VectorSolverModel_widthOf h) rfl rfl (Nat.le_of_ble_eq_true rfl) (fun _ hx => by cases hx) (fun v u q => ?_) (fun n u q => q)
            obtain ⟨r, rfl, h⟩ := xqi_get q
            refine xJ.callV (Y' := Y_VectorSolverModel_gets) (o_VectorSolverModel_fits 47 rfl) m_VectorSolverModel_314 y_VectorSolverModel_gets im_VectorSolverModel_gets se_VectorSolverModel_gets rfl rfl (s_VectorSolverModel_gets h) rfl rfl (Nat.le_of_ble_eq_true rfl) (fun _ hx => by cases hx) (fun v u q => ?_) (fun n u q => q)
            obtain ⟨r, rfl, h⟩ := xqi_get q
            refine xJ.if_eq (tgt := 97) (o_VectorSolverModel_fits 48 rfl) (by decide) (fun z => ?_) (fun z => ?_)
            · replace h := h.1 z
              refine xJ.iconst (v := 0) (o_VectorSolverModel_fits 51 rfl) (by decide) ?_
              exact xJ.zreturn (o_VectorSolverModel_fits 52 rfl) rfl (Or.inl rfl) h
            · replace h := h.2 z
              refine xJ.iconst (v := 1) (o_VectorSolverModel_fits 49 rfl) (by decide) ?_
              refine xJ.goto (tgt := 98) (o_VectorSolverModel_fits 50 rfl) (by decide) ?_
              exact xJ.zreturn (o_VectorSolverModel_fits 52 rfl) rfl (Or.inr rfl) h
  · replace h := h.2 z
    refine xJ.aload_n (o_VectorSolverModel_fits 3 rfl) rfl ?_
    refine xJ.iconst (v := 0) (o_VectorSolverModel_fits 4 rfl) (by decide) ?_
    refine xJ.callV (Y' := Y_VectorSolverModel_allAlike) (o_VectorSolverModel_fits 5 rfl) m_VectorSolverModel_311 y_VectorSolverModel_allAlike im_VectorSolverModel_allAlike se_VectorSolverModel_allAlike rfl rfl (s_VectorSolverModel_allAlike h) rfl rfl (Nat.le_of_ble_eq_true rfl) (fun _ hx => by cases hx) (fun v u q => ?_) (fun n u q => q)
    obtain ⟨r, rfl, h⟩ := xqi_get q
    refine xJ.if_eq (tgt := 43) (o_VectorSolverModel_fits 6 rfl) (by decide) (fun z => ?_) (fun z => ?_)
    · replace h := h.1 z
      refine xJ.iconst (v := 0) (o_VectorSolverModel_fits 22 rfl) (by decide) ?_
      exact xJ.zreturn (o_VectorSolverModel_fits 23 rfl) rfl (Or.inl rfl) h
    · replace h := h.2 z
      refine xJ.aload_n (o_VectorSolverModel_fits 7 rfl) rfl ?_
      refine xJ.iconst (v := 0) (o_VectorSolverModel_fits 8 rfl) (by decide) ?_
      refine xJ.callV (Y' := Y_VectorSolverModel_indexOf) (o_VectorSolverModel_fits 9 rfl) m_VectorSolverModel_296 y_VectorSolverModel_indexOf im_VectorSolverModel_indexOf se_VectorSolverModel_indexOf rfl rfl (s_VectorSolverModel_indexOf h) rfl rfl (Nat.le_of_ble_eq_true rfl) (fun _ hx => by cases hx) (fun v u q => ?_) (fun n u q => q)
      obtain ⟨r, rfl, h⟩ := xqi_get q
      refine xJ.if_ne (tgt := 43) (o_VectorSolverModel_fits 10 rfl) (by decide) (fun z => ?_) (fun z => ?_)
      · replace h := h.1 z
        refine xJ.iconst (v := 0) (o_VectorSolverModel_fits 22 rfl) (by decide) ?_
        exact xJ.zreturn (o_VectorSolverModel_fits 23 rfl) rfl (Or.inl rfl) h
      · replace h := h.2 z
        refine xJ.aload_n (o_VectorSolverModel_fits 11 rfl) rfl ?_
        refine xJ.iconst (v := 0) (o_VectorSolverModel_fits 12 rfl) (by decide) ?_
        refine xJ.callV (Y' := Y_VectorSolverModel_widthOf) (o_VectorSolverModel_fits 13 rfl) m_VectorSolverModel_299 y_VectorSolverModel_widthOf im_VectorSolverModel_widthOf se_VectorSolverModel_widthOf rfl rfl (s_VectorSolverModel_widthOf h) rfl rfl (Nat.le_of_ble_eq_true rfl) (fun _ hx => by cases hx) (fun v u q => ?_) (fun n u q => q)
        obtain ⟨r, rfl, h⟩ := xqi_get q
        refine xJ.if_ne (tgt := 43) (o_VectorSolverModel_fits 14 rfl) (by decide) (fun z => ?_) (fun z => ?_)
        · replace h := h.1 z
          refine xJ.iconst (v := 0) (o_VectorSolverModel_fits 22 rfl) (by decide) ?_
          exact xJ.zreturn (o_VectorSolverModel_fits 23 rfl) rfl (Or.inl rfl) h
        · replace h := h.2 z
          refine xJ.aload_n (o_VectorSolverModel_fits 15 rfl) rfl ?_
          refine xJ.iconst (v := 0) (o_VectorSolverModel_fits 16 rfl) (by decide) ?_
          refine xJ.iconst (v := 0) (o_VectorSolverModel_fits 17 rfl) (by decide) ?_
          refine xJ.callV (Y' := Y_VectorSolverModel_gets) (o_VectorSolverModel_fits 18 rfl) m_VectorSolverModel_314 y_VectorSolverModel_gets im_VectorSolverModel_gets se_VectorSolverModel_gets rfl rfl (s_VectorSolverModel_gets h) rfl rfl (Nat.le_of_ble_eq_true rfl) (fun _ hx => by cases hx) (fun v u q => ?_) (fun n u q => q)
          obtain ⟨r, rfl, h⟩ := xqi_get q
          refine xJ.if_eq (tgt := 43) (o_VectorSolverModel_fits 19 rfl) (by decide) (fun z => ?_) (fun z => ?_)
          · replace h := h.1 z
            refine xJ.iconst (v := 0) (o_VectorSolverModel_fits 22 rfl) (by decide) ?_
            exact xJ.zreturn (o_VectorSolverModel_fits 23 rfl) rfl (Or.inl rfl) h
          · replace h := h.2 z
            refine xJ.iconst (v := 1) (o_VectorSolverModel_fits 20 rfl) (by decide) ?_
            refine xJ.goto (tgt := 44) (o_VectorSolverModel_fits 21 rfl) (by decide) ?_
            exact xJ.zreturn (o_VectorSolverModel_fits 23 rfl) rfl (Or.inr rfl) h
theorem sc_VectorSolverModel_fitsMany_1 {x : Int32} {P : Nat → Prop} (k0 : x = 2 ∨ x = 10 ∨ x = 11 ∨ x = 36 ∨ x = 37 ∨ x = 38 → P 164) (k1 : x = 3 ∨ x = 4 ∨ x = 5 ∨ x = 6 ∨ x = 8 ∨ x = 9 ∨ x = 12 ∨ x = 13 ∨ x = 14 ∨ x = 15 ∨ x = 16 ∨ x = 33 → P 186) (k2 : x = 7 ∨ x = 35 → P 175) (kd : ¬ x = 2 ∧ ¬ x = 3 ∧ ¬ x = 4 ∧ ¬ x = 5 ∧ ¬ x = 6 ∧ ¬ x = 7 ∧ ¬ x = 8 ∧ ¬ x = 9 ∧ ¬ x = 10 ∧ ¬ x = 11 ∧ ¬ x = 12 ∧ ¬ x = 13 ∧ ¬ x = 14 ∧ ¬ x = 15 ∧ ¬ x = 16 ∧ ¬ x = 33 ∧ ¬ x = 35 ∧ ¬ x = 36 ∧ ¬ x = 37 ∧ ¬ x = 38 → P 197) : ∃ t : Nat, xdst 1 196 2 38 #[163, 185, 185, 185, 185, 174, 185, 185, 163, 163, 185, 185, 185, 185, 185, 196, 196, 196, 196, 196, 196, 196, 196, 196, 196, 196, 196, 196, 196, 196, 196, 185, 196, 174, 163, 163, 163] x = (t : Int) ∧ P t := by
  by_cases h0_0 : x = 2
  · subst h0_0; exact ⟨164, by decide, k0 (Or.inl rfl)⟩
  by_cases h0_1 : x = 10
  · subst h0_1; exact ⟨164, by decide, k0 (Or.inr (Or.inl rfl))⟩
  by_cases h0_2 : x = 11
  · subst h0_2; exact ⟨164, by decide, k0 (Or.inr (Or.inr (Or.inl rfl)))⟩
  by_cases h0_3 : x = 36
  · subst h0_3; exact ⟨164, by decide, k0 (Or.inr (Or.inr (Or.inr (Or.inl rfl))))⟩
  by_cases h0_4 : x = 37
  · subst h0_4; exact ⟨164, by decide, k0 (Or.inr (Or.inr (Or.inr (Or.inr (Or.inl rfl)))))⟩
  by_cases h0_5 : x = 38
  · subst h0_5; exact ⟨164, by decide, k0 (Or.inr (Or.inr (Or.inr (Or.inr (Or.inr (rfl))))))⟩
  by_cases h1_0 : x = 3
  · subst h1_0; exact ⟨186, by decide, k1 (Or.inl rfl)⟩
  by_cases h1_1 : x = 4
  · subst h1_1; exact ⟨186, by decide, k1 (Or.inr (Or.inl rfl))⟩
  by_cases h1_2 : x = 5
  · subst h1_2; exact ⟨186, by decide, k1 (Or.inr (Or.inr (Or.inl rfl)))⟩
  by_cases h1_3 : x = 6
  · subst h1_3; exact ⟨186, by decide, k1 (Or.inr (Or.inr (Or.inr (Or.inl rfl))))⟩
  by_cases h1_4 : x = 8
  · subst h1_4; exact ⟨186, by decide, k1 (Or.inr (Or.inr (Or.inr (Or.inr (Or.inl rfl)))))⟩
  by_cases h1_5 : x = 9
  · subst h1_5; exact ⟨186, by decide, k1 (Or.inr (Or.inr (Or.inr (Or.inr (Or.inr (Or.inl rfl))))))⟩
  by_cases h1_6 : x = 12
  · subst h1_6; exact ⟨186, by decide, k1 (Or.inr (Or.inr (Or.inr (Or.inr (Or.inr (Or.inr (Or.inl rfl)))))))⟩
  by_cases h1_7 : x = 13
  · subst h1_7; exact ⟨186, by decide, k1 (Or.inr (Or.inr (Or.inr (Or.inr (Or.inr (Or.inr (Or.inr (Or.inl rfl))))))))⟩
  by_cases h1_8 : x = 14
  · subst h1_8; exact ⟨186, by decide, k1 (Or.inr (Or.inr (Or.inr (Or.inr (Or.inr (Or.inr (Or.inr (Or.inr (Or.inl rfl)))))))))⟩
  by_cases h1_9 : x = 15
  · subst h1_9; exact ⟨186, by decide, k1 (Or.inr (Or.inr (Or.inr (Or.inr (Or.inr (Or.inr (Or.inr (Or.inr (Or.inr (Or.inl rfl))))))))))⟩
  by_cases h1_10 : x = 16
  · subst h1_10; exact ⟨186, by decide, k1 (Or.inr (Or.inr (Or.inr (Or.inr (Or.inr (Or.inr (Or.inr (Or.inr (Or.inr (Or.inr (Or.inl rfl)))))))))))⟩
  by_cases h1_11 : x = 33
  · subst h1_11; exact ⟨186, by decide, k1 (Or.inr (Or.inr (Or.inr (Or.inr (Or.inr (Or.inr (Or.inr (Or.inr (Or.inr (Or.inr (Or.inr (rfl))))))))))))⟩
  by_cases h2_0 : x = 7
  · subst h2_0; exact ⟨175, by decide, k2 (Or.inl rfl)⟩
  by_cases h2_1 : x = 35
  · subst h2_1; exact ⟨175, by decide, k2 (Or.inr (rfl))⟩
  have nh0_0 := lv_neT h0_0 (show (2 : Int32).toInt = 2 by decide)
  have nh0_1 := lv_neT h0_1 (show (10 : Int32).toInt = 10 by decide)
  have nh0_2 := lv_neT h0_2 (show (11 : Int32).toInt = 11 by decide)
  have nh0_3 := lv_neT h0_3 (show (36 : Int32).toInt = 36 by decide)
  have nh0_4 := lv_neT h0_4 (show (37 : Int32).toInt = 37 by decide)
  have nh0_5 := lv_neT h0_5 (show (38 : Int32).toInt = 38 by decide)
  have nh1_0 := lv_neT h1_0 (show (3 : Int32).toInt = 3 by decide)
  have nh1_1 := lv_neT h1_1 (show (4 : Int32).toInt = 4 by decide)
  have nh1_2 := lv_neT h1_2 (show (5 : Int32).toInt = 5 by decide)
  have nh1_3 := lv_neT h1_3 (show (6 : Int32).toInt = 6 by decide)
  have nh1_4 := lv_neT h1_4 (show (8 : Int32).toInt = 8 by decide)
  have nh1_5 := lv_neT h1_5 (show (9 : Int32).toInt = 9 by decide)
  have nh1_6 := lv_neT h1_6 (show (12 : Int32).toInt = 12 by decide)
  have nh1_7 := lv_neT h1_7 (show (13 : Int32).toInt = 13 by decide)
  have nh1_8 := lv_neT h1_8 (show (14 : Int32).toInt = 14 by decide)
  have nh1_9 := lv_neT h1_9 (show (15 : Int32).toInt = 15 by decide)
  have nh1_10 := lv_neT h1_10 (show (16 : Int32).toInt = 16 by decide)
  have nh1_11 := lv_neT h1_11 (show (33 : Int32).toInt = 33 by decide)
  have nh2_0 := lv_neT h2_0 (show (7 : Int32).toInt = 7 by decide)
  have nh2_1 := lv_neT h2_1 (show (35 : Int32).toInt = 35 by decide)
  refine ⟨197, ?_, kd ⟨h0_0, h1_0, h1_1, h1_2, h1_3, h2_0, h1_4, h1_5, h0_1, h0_2, h1_6, h1_7, h1_8, h1_9, h1_10, h1_11, h2_1, h0_3, h0_4, h0_5⟩⟩
  by_cases d15 : x = 17
  · subst d15; decide
  by_cases d16 : x = 18
  · subst d16; decide
  by_cases d17 : x = 19
  · subst d17; decide
  by_cases d18 : x = 20
  · subst d18; decide
  by_cases d19 : x = 21
  · subst d19; decide
  by_cases d20 : x = 22
  · subst d20; decide
  by_cases d21 : x = 23
  · subst d21; decide
  by_cases d22 : x = 24
  · subst d22; decide
  by_cases d23 : x = 25
  · subst d23; decide
  by_cases d24 : x = 26
  · subst d24; decide
  by_cases d25 : x = 27
  · subst d25; decide
  by_cases d26 : x = 28
  · subst d26; decide
  by_cases d27 : x = 29
  · subst d27; decide
  by_cases d28 : x = 30
  · subst d28; decide
  by_cases d29 : x = 31
  · subst d29; decide
  by_cases d30 : x = 32
  · subst d30; decide
  by_cases d32 : x = 34
  · subst d32; decide
  have nd15 := lv_neT d15 (show (17 : Int32).toInt = 17 by decide)
  have nd16 := lv_neT d16 (show (18 : Int32).toInt = 18 by decide)
  have nd17 := lv_neT d17 (show (19 : Int32).toInt = 19 by decide)
  have nd18 := lv_neT d18 (show (20 : Int32).toInt = 20 by decide)
  have nd19 := lv_neT d19 (show (21 : Int32).toInt = 21 by decide)
  have nd20 := lv_neT d20 (show (22 : Int32).toInt = 22 by decide)
  have nd21 := lv_neT d21 (show (23 : Int32).toInt = 23 by decide)
  have nd22 := lv_neT d22 (show (24 : Int32).toInt = 24 by decide)
  have nd23 := lv_neT d23 (show (25 : Int32).toInt = 25 by decide)
  have nd24 := lv_neT d24 (show (26 : Int32).toInt = 26 by decide)
  have nd25 := lv_neT d25 (show (27 : Int32).toInt = 27 by decide)
  have nd26 := lv_neT d26 (show (28 : Int32).toInt = 28 by decide)
  have nd27 := lv_neT d27 (show (29 : Int32).toInt = 29 by decide)
  have nd28 := lv_neT d28 (show (30 : Int32).toInt = 30 by decide)
  have nd29 := lv_neT d29 (show (31 : Int32).toInt = 31 by decide)
  have nd30 := lv_neT d30 (show (32 : Int32).toInt = 32 by decide)
  have nd32 := lv_neT d32 (show (34 : Int32).toInt = 34 by decide)
  exact xdst_out (by omega) rfl
def wp_VectorSolverModel_fitsMany (Q : xO → xS → Prop) (σ : xS) (a1 : Int32) (a2 : Int32) : Prop :=
  ((a1 = 2 ∨ a1 = 10 ∨ a1 = 11 ∨ a1 = 36 ∨ a1 = 37 ∨ a1 = 38 → ((¬ a2 = 1 → Q (.inl (some (.int 0))) σ) ∧ (a2 = 1 → Q (.inl (some (.int 1))) σ))) ∧ (a1 = 3 ∨ a1 = 4 ∨ a1 = 5 ∨ a1 = 6 ∨ a1 = 8 ∨ a1 = 9 ∨ a1 = 12 ∨ a1 = 13 ∨ a1 = 14 ∨ a1 = 15 ∨ a1 = 16 ∨ a1 = 33 → ((a2 < 2 → Q (.inl (some (.int 0))) σ) ∧ (¬ a2 < 2 → Q (.inl (some (.int 1))) σ))) ∧ (a1 = 7 ∨ a1 = 35 → ((¬ a2 = 3 → Q (.inl (some (.int 0))) σ) ∧ (a2 = 3 → Q (.inl (some (.int 1))) σ))) ∧ (¬ a1 = 2 ∧ ¬ a1 = 3 ∧ ¬ a1 = 4 ∧ ¬ a1 = 5 ∧ ¬ a1 = 6 ∧ ¬ a1 = 7 ∧ ¬ a1 = 8 ∧ ¬ a1 = 9 ∧ ¬ a1 = 10 ∧ ¬ a1 = 11 ∧ ¬ a1 = 12 ∧ ¬ a1 = 13 ∧ ¬ a1 = 14 ∧ ¬ a1 = 15 ∧ ¬ a1 = 16 ∧ ¬ a1 = 33 ∧ ¬ a1 = 35 ∧ ¬ a1 = 36 ∧ ¬ a1 = 37 ∧ ¬ a1 = 38 → ((¬ a2 = 2 → Q (.inl (some (.int 0))) σ) ∧ (a2 = 2 → Q (.inl (some (.int 1))) σ))))
set_option maxRecDepth 20000 in
theorem s_VectorSolverModel_fitsMany {γ : xG1} {d : Nat} {Q : xO → xS → Prop} {σ : xS} {a1 : Int32} {a2 : Int32} (h : wp_VectorSolverModel_fitsMany Q σ a1 a2) : xM (SHP, γ) Y_VectorSolverModel_fitsMany (d + 0) [.ref 50, .int a1, .int a2] σ Q := by
  refine xM.of (by decide) (Nat.le_of_ble_eq_true rfl) ?_
  refine xJ.iload_n (o_VectorSolverModel_fitsMany 0 rfl) rfl ?_
  refine xJ.tsw (o_VectorSolverModel_fitsMany 1 rfl) (by decide) (sc_VectorSolverModel_fitsMany_1 (fun z => ?_) (fun z => ?_) (fun z => ?_) (fun z => ?_))
  · replace h := h.1 z
    refine xJ.iload_n (o_VectorSolverModel_fitsMany 2 rfl) rfl ?_
    refine xJ.iconst (v := 1) (o_VectorSolverModel_fitsMany 3 rfl) (by decide) ?_
    refine xJ.icmp_ne (tgt := 173) (o_VectorSolverModel_fitsMany 4 rfl) (by decide) (fun z => ?_) (fun z => ?_)
    · replace h := h.1 z
      refine xJ.iconst (v := 0) (o_VectorSolverModel_fitsMany 7 rfl) (by decide) ?_
      exact xJ.zreturn (o_VectorSolverModel_fitsMany 8 rfl) rfl (Or.inl rfl) h
    · replace h := h.2 z
      refine xJ.iconst (v := 1) (o_VectorSolverModel_fitsMany 5 rfl) (by decide) ?_
      refine xJ.goto (tgt := 174) (o_VectorSolverModel_fitsMany 6 rfl) (by decide) ?_
      exact xJ.zreturn (o_VectorSolverModel_fitsMany 8 rfl) rfl (Or.inr rfl) h
  · replace h := h.2.1 z
    refine xJ.iload_n (o_VectorSolverModel_fitsMany 16 rfl) rfl ?_
    refine xJ.iconst (v := 2) (o_VectorSolverModel_fitsMany 17 rfl) (by decide) ?_
    refine xJ.icmp_lt (tgt := 195) (o_VectorSolverModel_fitsMany 18 rfl) (by decide) (fun z => ?_) (fun z => ?_)
    · replace h := h.1 z
      refine xJ.iconst (v := 0) (o_VectorSolverModel_fitsMany 21 rfl) (by decide) ?_
      exact xJ.zreturn (o_VectorSolverModel_fitsMany 22 rfl) rfl (Or.inl rfl) h
    · replace h := h.2 z
      refine xJ.iconst (v := 1) (o_VectorSolverModel_fitsMany 19 rfl) (by decide) ?_
      refine xJ.goto (tgt := 196) (o_VectorSolverModel_fitsMany 20 rfl) (by decide) ?_
      exact xJ.zreturn (o_VectorSolverModel_fitsMany 22 rfl) rfl (Or.inr rfl) h
  · replace h := h.2.2.1 z
    refine xJ.iload_n (o_VectorSolverModel_fitsMany 9 rfl) rfl ?_
    refine xJ.iconst (v := 3) (o_VectorSolverModel_fitsMany 10 rfl) (by decide) ?_
    refine xJ.icmp_ne (tgt := 184) (o_VectorSolverModel_fitsMany 11 rfl) (by decide) (fun z => ?_) (fun z => ?_)
    · replace h := h.1 z
      refine xJ.iconst (v := 0) (o_VectorSolverModel_fitsMany 14 rfl) (by decide) ?_
      exact xJ.zreturn (o_VectorSolverModel_fitsMany 15 rfl) rfl (Or.inl rfl) h
    · replace h := h.2 z
      refine xJ.iconst (v := 1) (o_VectorSolverModel_fitsMany 12 rfl) (by decide) ?_
      refine xJ.goto (tgt := 185) (o_VectorSolverModel_fitsMany 13 rfl) (by decide) ?_
      exact xJ.zreturn (o_VectorSolverModel_fitsMany 15 rfl) rfl (Or.inr rfl) h
  · replace h := h.2.2.2 z
    refine xJ.iload_n (o_VectorSolverModel_fitsMany 23 rfl) rfl ?_
    refine xJ.iconst (v := 2) (o_VectorSolverModel_fitsMany 24 rfl) (by decide) ?_
    refine xJ.icmp_ne (tgt := 206) (o_VectorSolverModel_fitsMany 25 rfl) (by decide) (fun z => ?_) (fun z => ?_)
    · replace h := h.1 z
      refine xJ.iconst (v := 0) (o_VectorSolverModel_fitsMany 28 rfl) (by decide) ?_
      exact xJ.zreturn (o_VectorSolverModel_fitsMany 29 rfl) rfl (Or.inl rfl) h
    · replace h := h.2 z
      refine xJ.iconst (v := 1) (o_VectorSolverModel_fitsMany 26 rfl) (by decide) ?_
      refine xJ.goto (tgt := 207) (o_VectorSolverModel_fitsMany 27 rfl) (by decide) ?_
      exact xJ.zreturn (o_VectorSolverModel_fitsMany 29 rfl) rfl (Or.inr rfl) h
def w_VectorSolverModel_apply_163 (Q : xO → xS → Prop) : Nat → Int32 → Int32 → Int32 → xS → Prop
  | 0 => fun _ _ _ _ => False
  | n + 1 => fun a1 a4 a5 σ =>
    ((a1 ≤ a5 → (∀ s10 : xS, s10 = xpi σ 50 36 ((xi σ 50 36) - a1) → Q (.inl (some (.int a4))) s10)) ∧ (¬ a1 ≤ a5 → (vp_in (((xi σ 50 36) - a1) + a5) 2600 ∧ (vp_in (xi σ 50 21) 80000 ∧ (∀ s11 : xS, s11 = xpi σ 65 (xi σ 50 21).toNatClampNeg (xi σ 76 (((xi σ 50 36) - a1) + a5).toNatClampNeg) → (∀ s12 : xS, s12 = xpi s11 50 21 ((xi s11 50 21) + 1) → (∀ x13 : Int32, x13 = a5 + 1 → w_VectorSolverModel_apply_163 Q n a1 a4 x13 s12)))))))
def w_VectorSolverModel_apply_109 (Q : xO → xS → Prop) (a1 : Int32) (t0 : Int32) (σ : xS) : Prop :=
  (((xi σ 50 4) ≤ 0 → (vp_in (xi σ 50 29) 64 ∧ (vp_in t0 2000 ∧ (∀ s7 : xS, s7 = xpi σ 61 t0.toNatClampNeg (xi σ 73 (xi σ 50 29).toNatClampNeg) → (vp_in (xi s7 50 29) 64 ∧ (vp_in t0 2000 ∧ (∀ s8 : xS, s8 = xpi s7 62 t0.toNatClampNeg (xi s7 74 (xi s7 50 29).toNatClampNeg) → (vp_in t0 2000 ∧ (∀ s9 : xS, s9 = xpi s8 60 t0.toNatClampNeg a1 → ∃ m, w_VectorSolverModel_apply_163 Q m a1 t0 0 s9))))))))) ∧ (¬ (xi σ 50 4) ≤ 0 → Q (.inl (some (.int 0))) σ))
def w_VectorSolverModel_apply_72 (Q : xO → xS → Prop) (a1 : Int32) (a2 : Int32) (t0 : Int32) (σ : xS) : Prop :=
  ((t0 = 0 → w_VectorSolverModel_apply_109 Q a1 0 σ) ∧ (¬ t0 = 0 → wp_VectorSolverModel_heavy (xqi (fun r15 u14 => (vp_in (xi u14 50 29) 64 ∧ wp_VectorSolverModel_make (xqi (fun r17 u16 => w_VectorSolverModel_apply_109 Q a1 r17 u16) (fun n u => Q (.inr n) u)) u14 a2 (xi σ 50 56) (xi σ 50 57) r15 (xi u14 71 (xi u14 50 29).toNatClampNeg))) (fun n u => Q (.inr n) u)) σ a2 a1))
def w_VectorSolverModel_apply_71 (Q : xO → xS → Prop) (a1 : Int32) (a2 : Int32) (σ : xS) : Prop :=
  w_VectorSolverModel_apply_72 Q a1 a2 0 σ
def wp_VectorSolverModel_apply (Q : xO → xS → Prop) (σ : xS)  : Prop :=
  (vp_in (xi σ 50 29) 64 ∧ (∀ x1 : Int32, x1 = (xi σ 75 (xi σ 50 29).toNatClampNeg) → (vp_in (xi σ 50 29) 64 ∧ (∀ x2 : Int32, x2 = (xi σ 72 (xi σ 50 29).toNatClampNeg) → wp_VectorSolverModel_fitsMany (xqi (fun r4 u3 => (vp_in (xi u3 50 29) 64 ∧ wp_VectorSolverModel_want (xqi (fun r6 u5 => ((r6 = 0 → w_VectorSolverModel_apply_71 Q x1 x2 u5) ∧ (¬ r6 = 0 → wp_VectorSolverModel_fits (xqi (fun r19 u18 => (vp_in (xi u18 50 29) 64 ∧ wp_VectorSolverModel_want (xqi (fun r21 u20 => ((r21 = 0 → w_VectorSolverModel_apply_71 Q x1 x2 u20) ∧ (¬ r21 = 0 → w_VectorSolverModel_apply_72 Q x1 x2 1 u20))) (fun n u => Q (.inr n) u)) u18 r19 9 (xi u18 71 (xi u18 50 29).toNatClampNeg))) (fun n u => Q (.inr n) u)) u5 x2))) (fun n u => Q (.inr n) u)) u3 r4 8 (xi u3 71 (xi u3 50 29).toNatClampNeg))) (fun n u => Q (.inr n) u)) σ x2 x1))))
set_option maxRecDepth 20000 in
theorem sw_VectorSolverModel_apply_163 {γ : xG1} {d b0 : Nat} {Q : xO → xS → Prop} : ∀ (n : Nat) (a1 : Int32) (a4 : Int32) (a5 : Int32) (σ : xS), w_VectorSolverModel_apply_163 Q n a1 a4 a5 σ → xJ (SHP, γ) Y_VectorSolverModel_apply (d + 4) b0 163 [(0, .ref 50), (1, .int a1), (4, .int a4), (5, .int a5)] [] σ Q := by
  intro n
  induction n with
  | zero => intro a1 a4 a5 σ h; exact h.elim
  | succ n ih =>
    intro a1 a4 a5 σ h
    refine xJ.iload (o_VectorSolverModel_apply 92 rfl) rfl ?_
    refine xJ.iload_n (o_VectorSolverModel_apply 93 rfl) rfl ?_
    refine xJ.icmp_ge (tgt := 208) (o_VectorSolverModel_apply 94 rfl) (by decide) (fun z => ?_) (fun z => ?_)
    · replace h := h.1 z
      refine xJ.aload_n (o_VectorSolverModel_apply 117 rfl) rfl ?_
      refine xJ.dup (o_VectorSolverModel_apply 118 rfl) rfl ?_
      refine xJ.getfield (o_VectorSolverModel_apply 119 rfl) f_VectorSolverModel_267 rfl rfl ?_
      refine xJ.iload_n (o_VectorSolverModel_apply 120 rfl) rfl ?_
      refine xJ.isub (o_VectorSolverModel_apply 121 rfl) ?_
      refine xJ.putI (o_VectorSolverModel_apply 122 rfl) f_VectorSolverModel_267 rfl rfl rfl ?_
      replace h := h _ rfl
      refine xJ.iload (o_VectorSolverModel_apply 123 rfl) rfl ?_
      exact xJ.ireturn (o_VectorSolverModel_apply 124 rfl) rfl h
    · replace h := h.2 z
      refine xJ.aload_n (o_VectorSolverModel_apply 95 rfl) rfl ?_
      refine xJ.getfield (o_VectorSolverModel_apply 96 rfl) f_VectorSolverModel_67 rfl rfl ?_
      refine xJ.aload_n (o_VectorSolverModel_apply 97 rfl) rfl ?_
      refine xJ.getfield (o_VectorSolverModel_apply 98 rfl) f_VectorSolverModel_227 rfl rfl ?_
      refine xJ.aload_n (o_VectorSolverModel_apply 99 rfl) rfl ?_
      refine xJ.getfield (o_VectorSolverModel_apply 100 rfl) f_VectorSolverModel_100 rfl rfl ?_
      refine xJ.aload_n (o_VectorSolverModel_apply 101 rfl) rfl ?_
      refine xJ.getfield (o_VectorSolverModel_apply 102 rfl) f_VectorSolverModel_267 rfl rfl ?_
      refine xJ.iload_n (o_VectorSolverModel_apply 103 rfl) rfl ?_
      refine xJ.isub (o_VectorSolverModel_apply 104 rfl) ?_
      refine xJ.iload (o_VectorSolverModel_apply 105 rfl) rfl ?_
      refine xJ.iadd (o_VectorSolverModel_apply 106 rfl) ?_
      refine xJ.iaload (o_VectorSolverModel_apply 107 rfl) rfl h.1 ?_
      replace h := h.2
      refine xJ.iastore (o_VectorSolverModel_apply 108 rfl) rfl h.1 ?_
      replace h := h.2
      replace h := h _ rfl
      refine xJ.aload_n (o_VectorSolverModel_apply 109 rfl) rfl ?_
      refine xJ.dup (o_VectorSolverModel_apply 110 rfl) rfl ?_
      refine xJ.getfield (o_VectorSolverModel_apply 111 rfl) f_VectorSolverModel_227 rfl rfl ?_
      refine xJ.iconst (v := 1) (o_VectorSolverModel_apply 112 rfl) (by decide) ?_
      refine xJ.iadd (o_VectorSolverModel_apply 113 rfl) ?_
      refine xJ.putI (o_VectorSolverModel_apply 114 rfl) f_VectorSolverModel_227 rfl rfl rfl ?_
      replace h := h _ rfl
      refine xJ.iincC (w := 1) (o_VectorSolverModel_apply 115 rfl) rfl (by decide) (by decide) ?_
      replace h := h _ rfl
      refine xJ.goto (tgt := 163) (o_VectorSolverModel_apply 116 rfl) (by decide) ?_
      exact xJ.lvs (by exact ⟨rfl, rfl, rfl, rfl, trivial⟩) (ih _ _ _ _ h)
set_option maxRecDepth 20000 in
theorem sw_VectorSolverModel_apply_109 {γ : xG1} {d b0 : Nat} {Q : xO → xS → Prop} {a1 : Int32} {t0 : Int32} {σ : xS} (h : w_VectorSolverModel_apply_109 Q a1 t0 σ) : xJ (SHP, γ) Y_VectorSolverModel_apply (d + 4) b0 109 [(0, .ref 50), (1, .int a1)] [.int t0] σ Q := by
  refine xJ.istore (o_VectorSolverModel_apply 61 rfl) (by decide) ?_
  refine xJ.aload_n (o_VectorSolverModel_apply 62 rfl) rfl ?_
  refine xJ.getfield (o_VectorSolverModel_apply 63 rfl) f_VectorSolverModel_166 rfl rfl ?_
  refine xJ.if_le (tgt := 120) (o_VectorSolverModel_apply 64 rfl) (by decide) (fun z => ?_) (fun z => ?_)
  · replace h := h.1 z
    refine xJ.aload_n (o_VectorSolverModel_apply 67 rfl) rfl ?_
    refine xJ.getfield (o_VectorSolverModel_apply 68 rfl) f_VectorSolverModel_53 rfl rfl ?_
    refine xJ.iload (o_VectorSolverModel_apply 69 rfl) rfl ?_
    refine xJ.aload_n (o_VectorSolverModel_apply 70 rfl) rfl ?_
    refine xJ.getfield (o_VectorSolverModel_apply 71 rfl) f_VectorSolverModel_91 rfl rfl ?_
    refine xJ.aload_n (o_VectorSolverModel_apply 72 rfl) rfl ?_
    refine xJ.getfield (o_VectorSolverModel_apply 73 rfl) f_VectorSolverModel_264 rfl rfl ?_
    refine xJ.iaload (o_VectorSolverModel_apply 74 rfl) rfl h.1 ?_
    replace h := h.2
    refine xJ.iastore (o_VectorSolverModel_apply 75 rfl) rfl h.1 ?_
    replace h := h.2
    replace h := h _ rfl
    refine xJ.aload_n (o_VectorSolverModel_apply 76 rfl) rfl ?_
    refine xJ.getfield (o_VectorSolverModel_apply 77 rfl) f_VectorSolverModel_56 rfl rfl ?_
    refine xJ.iload (o_VectorSolverModel_apply 78 rfl) rfl ?_
    refine xJ.aload_n (o_VectorSolverModel_apply 79 rfl) rfl ?_
    refine xJ.getfield (o_VectorSolverModel_apply 80 rfl) f_VectorSolverModel_94 rfl rfl ?_
    refine xJ.aload_n (o_VectorSolverModel_apply 81 rfl) rfl ?_
    refine xJ.getfield (o_VectorSolverModel_apply 82 rfl) f_VectorSolverModel_264 rfl rfl ?_
    refine xJ.iaload (o_VectorSolverModel_apply 83 rfl) rfl h.1 ?_
    replace h := h.2
    refine xJ.iastore (o_VectorSolverModel_apply 84 rfl) rfl h.1 ?_
    replace h := h.2
    replace h := h _ rfl
    refine xJ.aload_n (o_VectorSolverModel_apply 85 rfl) rfl ?_
    refine xJ.getfield (o_VectorSolverModel_apply 86 rfl) f_VectorSolverModel_50 rfl rfl ?_
    refine xJ.iload (o_VectorSolverModel_apply 87 rfl) rfl ?_
    refine xJ.iload_n (o_VectorSolverModel_apply 88 rfl) rfl ?_
    refine xJ.iastore (o_VectorSolverModel_apply 89 rfl) rfl h.1 ?_
    replace h := h.2
    replace h := h _ rfl
    refine xJ.iconst (v := 0) (o_VectorSolverModel_apply 90 rfl) (by decide) ?_
    refine xJ.istore (o_VectorSolverModel_apply 91 rfl) (by decide) ?_
    obtain ⟨m, h⟩ := h
    exact xJ.lvs (by exact ⟨rfl, rfl, rfl, rfl, trivial⟩) (sw_VectorSolverModel_apply_163 m _ _ _ _ h)
  · replace h := h.2 z
    refine xJ.iconst (v := 0) (o_VectorSolverModel_apply 65 rfl) (by decide) ?_
    exact xJ.ireturn (o_VectorSolverModel_apply 66 rfl) rfl h
set_option maxRecDepth 20000 in
theorem sw_VectorSolverModel_apply_72 {γ : xG1} {d b0 : Nat} {Q : xO → xS → Prop} {a1 : Int32} {a2 : Int32} {t0 : Int32} {σ : xS} (h : w_VectorSolverModel_apply_72 Q a1 a2 t0 σ) : xJ (SHP, γ) Y_VectorSolverModel_apply (d + 4) b0 72 [(0, .ref 50), (1, .int a1), (2, .int a2)] [.int t0] σ Q := by
  refine xJ.istore_n (o_VectorSolverModel_apply 40 rfl) (by decide) ?_
  refine xJ.iload_n (o_VectorSolverModel_apply 41 rfl) rfl ?_
  refine xJ.if_eq (tgt := 108) (o_VectorSolverModel_apply 42 rfl) (by decide) (fun z => ?_) (fun z => ?_)
  · replace h := h.1 z
    refine xJ.iconst (v := 0) (o_VectorSolverModel_apply 60 rfl) (by decide) ?_
    exact xJ.lvs (by exact ⟨rfl, rfl, trivial⟩) (sw_VectorSolverModel_apply_109 h)
  · replace h := h.2 z
    refine xJ.aload_n (o_VectorSolverModel_apply 43 rfl) rfl ?_
    refine xJ.iload_n (o_VectorSolverModel_apply 44 rfl) rfl ?_
    refine xJ.aload_n (o_VectorSolverModel_apply 45 rfl) rfl ?_
    refine xJ.getfield (o_VectorSolverModel_apply 46 rfl) f_VectorSolverModel_305 rfl rfl ?_
    refine xJ.aload_n (o_VectorSolverModel_apply 47 rfl) rfl ?_
    refine xJ.getfield (o_VectorSolverModel_apply 48 rfl) f_VectorSolverModel_308 rfl rfl ?_
    refine xJ.aload_n (o_VectorSolverModel_apply 49 rfl) rfl ?_
    refine xJ.iload_n (o_VectorSolverModel_apply 50 rfl) rfl ?_
    refine xJ.iload_n (o_VectorSolverModel_apply 51 rfl) rfl ?_
    refine xJ.callV (Y' := Y_VectorSolverModel_heavy) (o_VectorSolverModel_apply 52 rfl) m_VectorSolverModel_326 y_VectorSolverModel_heavy im_VectorSolverModel_heavy se_VectorSolverModel_heavy rfl rfl (s_VectorSolverModel_heavy h) rfl rfl (Nat.le_of_ble_eq_true rfl) (fun _ hx => by cases hx) (fun v u q => ?_) (fun n u q => q)
    obtain ⟨r, rfl, h⟩ := xqi_get q
    refine xJ.aload_n (o_VectorSolverModel_apply 53 rfl) rfl ?_
    refine xJ.getfield (o_VectorSolverModel_apply 54 rfl) f_VectorSolverModel_85 rfl rfl ?_
    refine xJ.aload_n (o_VectorSolverModel_apply 55 rfl) rfl ?_
    refine xJ.getfield (o_VectorSolverModel_apply 56 rfl) f_VectorSolverModel_264 rfl rfl ?_
    refine xJ.iaload (o_VectorSolverModel_apply 57 rfl) rfl h.1 ?_
    replace h := h.2
    refine xJ.callV (Y' := Y_VectorSolverModel_make) (o_VectorSolverModel_apply 58 rfl) m_VectorSolverModel_239 y_VectorSolverModel_make im_VectorSolverModel_make se_VectorSolverModel_make rfl rfl (s_VectorSolverModel_make h) rfl rfl (Nat.le_of_ble_eq_true rfl) (fun _ hx => by cases hx) (fun v u q => ?_) (fun n u q => q)
    obtain ⟨r, rfl, h⟩ := xqi_get q
    refine xJ.goto (tgt := 109) (o_VectorSolverModel_apply 59 rfl) (by decide) ?_
    exact xJ.lvs (by exact ⟨rfl, rfl, trivial⟩) (sw_VectorSolverModel_apply_109 h)
set_option maxRecDepth 20000 in
theorem sw_VectorSolverModel_apply_71 {γ : xG1} {d b0 : Nat} {Q : xO → xS → Prop} {a1 : Int32} {a2 : Int32} {σ : xS} (h : w_VectorSolverModel_apply_71 Q a1 a2 σ) : xJ (SHP, γ) Y_VectorSolverModel_apply (d + 4) b0 71 [(0, .ref 50), (1, .int a1), (2, .int a2)] [] σ Q := by
  refine xJ.iconst (v := 0) (o_VectorSolverModel_apply 39 rfl) (by decide) ?_
  exact xJ.lvs (by exact ⟨rfl, rfl, rfl, trivial⟩) (sw_VectorSolverModel_apply_72 h)
set_option maxRecDepth 20000 in
theorem s_VectorSolverModel_apply {γ : xG1} {d : Nat} {Q : xO → xS → Prop} {σ : xS}  (h : wp_VectorSolverModel_apply Q σ ) : xM (SHP, γ) Y_VectorSolverModel_apply (d + 4) [.ref 50] σ Q := by
  refine xM.of (by decide) (Nat.le_of_ble_eq_true rfl) ?_
  refine xJ.aload_n (o_VectorSolverModel_apply 0 rfl) rfl ?_
  refine xJ.getfield (o_VectorSolverModel_apply 1 rfl) f_VectorSolverModel_97 rfl rfl ?_
  refine xJ.aload_n (o_VectorSolverModel_apply 2 rfl) rfl ?_
  refine xJ.getfield (o_VectorSolverModel_apply 3 rfl) f_VectorSolverModel_264 rfl rfl ?_
  refine xJ.iaload (o_VectorSolverModel_apply 4 rfl) rfl h.1 ?_
  replace h := h.2
  refine xJ.istore_n (o_VectorSolverModel_apply 5 rfl) (by decide) ?_
  replace h := h _ rfl
  refine xJ.aload_n (o_VectorSolverModel_apply 6 rfl) rfl ?_
  refine xJ.getfield (o_VectorSolverModel_apply 7 rfl) f_VectorSolverModel_88 rfl rfl ?_
  refine xJ.aload_n (o_VectorSolverModel_apply 8 rfl) rfl ?_
  refine xJ.getfield (o_VectorSolverModel_apply 9 rfl) f_VectorSolverModel_264 rfl rfl ?_
  refine xJ.iaload (o_VectorSolverModel_apply 10 rfl) rfl h.1 ?_
  replace h := h.2
  refine xJ.istore_n (o_VectorSolverModel_apply 11 rfl) (by decide) ?_
  replace h := h _ rfl
  refine xJ.aload_n (o_VectorSolverModel_apply 12 rfl) rfl ?_
  refine xJ.aload_n (o_VectorSolverModel_apply 13 rfl) rfl ?_
  refine xJ.iload_n (o_VectorSolverModel_apply 14 rfl) rfl ?_
  refine xJ.iload_n (o_VectorSolverModel_apply 15 rfl) rfl ?_
  refine xJ.callV (Y' := Y_VectorSolverModel_fitsMany) (o_VectorSolverModel_apply 16 rfl) m_VectorSolverModel_320 y_VectorSolverModel_fitsMany im_VectorSolverModel_fitsMany se_VectorSolverModel_fitsMany rfl rfl (s_VectorSolverModel_fitsMany h) rfl rfl (Nat.le_of_ble_eq_true rfl) (fun _ hx => by cases hx) (fun v u q => ?_) (fun n u q => q)
  obtain ⟨r, rfl, h⟩ := xqi_get q
  refine xJ.bipush (v := 8) (o_VectorSolverModel_apply 17 rfl) (by decide) ?_
  refine xJ.aload_n (o_VectorSolverModel_apply 18 rfl) rfl ?_
  refine xJ.getfield (o_VectorSolverModel_apply 19 rfl) f_VectorSolverModel_85 rfl rfl ?_
  refine xJ.aload_n (o_VectorSolverModel_apply 20 rfl) rfl ?_
  refine xJ.getfield (o_VectorSolverModel_apply 21 rfl) f_VectorSolverModel_264 rfl rfl ?_
  refine xJ.iaload (o_VectorSolverModel_apply 22 rfl) rfl h.1 ?_
  replace h := h.2
  refine xJ.callV (Y' := Y_VectorSolverModel_want) (o_VectorSolverModel_apply 23 rfl) m_VectorSolverModel_172 y_VectorSolverModel_want im_VectorSolverModel_want se_VectorSolverModel_want rfl rfl (s_VectorSolverModel_want h) rfl rfl (Nat.le_of_ble_eq_true rfl) (fun _ hx => by cases hx) (fun v u q => ?_) (fun n u q => q)
  obtain ⟨r, rfl, h⟩ := xqi_get q
  refine xJ.if_eq (tgt := 71) (o_VectorSolverModel_apply 24 rfl) (by decide) (fun z => ?_) (fun z => ?_)
  · replace h := h.1 z
    exact xJ.lvs (by exact ⟨rfl, rfl, rfl, trivial⟩) (sw_VectorSolverModel_apply_71 h)
  · replace h := h.2 z
    refine xJ.aload_n (o_VectorSolverModel_apply 25 rfl) rfl ?_
    refine xJ.aload_n (o_VectorSolverModel_apply 26 rfl) rfl ?_
    refine xJ.iload_n (o_VectorSolverModel_apply 27 rfl) rfl ?_
    refine xJ.callV (Y' := Y_VectorSolverModel_fits) (o_VectorSolverModel_apply 28 rfl) m_VectorSolverModel_323 y_VectorSolverModel_fits im_VectorSolverModel_fits se_VectorSolverModel_fits rfl rfl (s_VectorSolverModel_fits h) rfl rfl (Nat.le_of_ble_eq_true rfl) (fun _ hx => by cases hx) (fun v u q => ?_) (fun n u q => q)
    obtain ⟨r, rfl, h⟩ := xqi_get q
    refine xJ.bipush (v := 9) (o_VectorSolverModel_apply 29 rfl) (by decide) ?_
    refine xJ.aload_n (o_VectorSolverModel_apply 30 rfl) rfl ?_
    refine xJ.getfield (o_VectorSolverModel_apply 31 rfl) f_VectorSolverModel_85 rfl rfl ?_
    refine xJ.aload_n (o_VectorSolverModel_apply 32 rfl) rfl ?_
    refine xJ.getfield (o_VectorSolverModel_apply 33 rfl) f_VectorSolverModel_264 rfl rfl ?_
    refine xJ.iaload (o_VectorSolverModel_apply 34 rfl) rfl h.1 ?_
    replace h := h.2
    refine xJ.callV (Y' := Y_VectorSolverModel_want) (o_VectorSolverModel_apply 35 rfl) m_VectorSolverModel_172 y_VectorSolverModel_want im_VectorSolverModel_want se_VectorSolverModel_want rfl rfl (s_VectorSolverModel_want h) rfl rfl (Nat.le_of_ble_eq_true rfl) (fun _ hx => by cases hx) (fun v u q => ?_) (fun n u q => q)
    obtain ⟨r, rfl, h⟩ := xqi_get q
    refine xJ.if_eq (tgt := 71) (o_VectorSolverModel_apply 36 rfl) (by decide) (fun z => ?_) (fun z => ?_)
    · replace h := h.1 z
      exact xJ.lvs (by exact ⟨rfl, rfl, rfl, trivial⟩) (sw_VectorSolverModel_apply_71 h)
    · replace h := h.2 z
      refine xJ.iconst (v := 1) (o_VectorSolverModel_apply 37 rfl) (by decide) ?_
      refine xJ.goto (tgt := 72) (o_VectorSolverModel_apply 38 rfl) (by decide) ?_
      exact xJ.lvs (by exact ⟨rfl, rfl, rfl, trivial⟩) (sw_VectorSolverModel_apply_72 h)
def w_VectorSolverModel_areSame_38 (Q : xO → xS → Prop) : Nat → Int32 → Int32 → Int32 → Int32 → xS → Prop
  | 0 => fun _ _ _ _ _ => False
  | n + 1 => fun a1 a2 a3 a4 σ =>
    (vp_in a1 65537 ∧ (vp_in a1 65537 ∧ ((((xi σ 54 a1.toNatClampNeg) - (xi σ 53 a1.toNatClampNeg)) ≤ a4 → ((a3 = 0 ∨ a3 = 1) ∧ Q (.inl (some (.int a3))) σ)) ∧ (¬ ((xi σ 54 a1.toNatClampNeg) - (xi σ 53 a1.toNatClampNeg)) ≤ a4 → ((a3 = 0 → ((a3 = 0 ∨ a3 = 1) ∧ Q (.inl (some (.int a3))) σ)) ∧ (¬ a3 = 0 → (vp_in a1 65537 ∧ (vp_in ((xi σ 53 a1.toNatClampNeg) + a4) 65536 ∧ (vp_in a2 65537 ∧ (vp_in ((xi σ 53 a2.toNatClampNeg) + a4) 65536 ∧ ((¬ (xi σ 51 ((xi σ 53 a1.toNatClampNeg) + a4).toNatClampNeg) = (xi σ 51 ((xi σ 53 a2.toNatClampNeg) + a4).toNatClampNeg) → (∀ x1 : Int32, x1 = a4 + 1 → w_VectorSolverModel_areSame_38 Q n a1 a2 0 x1 σ)) ∧ ((xi σ 51 ((xi σ 53 a1.toNatClampNeg) + a4).toNatClampNeg) = (xi σ 51 ((xi σ 53 a2.toNatClampNeg) + a4).toNatClampNeg) → (∀ x2 : Int32, x2 = a4 + 1 → w_VectorSolverModel_areSame_38 Q n a1 a2 1 x2 σ)))))))))))))
def wp_VectorSolverModel_areSame (Q : xO → xS → Prop) (σ : xS) (a1 : Int32) (a2 : Int32) : Prop :=
  (vp_in a1 65537 ∧ (vp_in a1 65537 ∧ (vp_in a2 65537 ∧ (vp_in a2 65537 ∧ ((¬ ((xi σ 54 a1.toNatClampNeg) - (xi σ 53 a1.toNatClampNeg)) = ((xi σ 54 a2.toNatClampNeg) - (xi σ 53 a2.toNatClampNeg)) → ∃ m, w_VectorSolverModel_areSame_38 Q m a1 a2 0 0 σ) ∧ (((xi σ 54 a1.toNatClampNeg) - (xi σ 53 a1.toNatClampNeg)) = ((xi σ 54 a2.toNatClampNeg) - (xi σ 53 a2.toNatClampNeg)) → ∃ m, w_VectorSolverModel_areSame_38 Q m a1 a2 1 0 σ))))))
set_option maxRecDepth 20000 in
theorem sw_VectorSolverModel_areSame_38 {γ : xG1} {d b0 : Nat} {Q : xO → xS → Prop} : ∀ (n : Nat) (a1 : Int32) (a2 : Int32) (a3 : Int32) (a4 : Int32) (σ : xS), w_VectorSolverModel_areSame_38 Q n a1 a2 a3 a4 σ → xJ (SHP, γ) Y_VectorSolverModel_areSame (d + 0) b0 38 [(0, .ref 50), (1, .int a1), (2, .int a2), (3, .int a3), (4, .int a4)] [] σ Q := by
  intro n
  induction n with
  | zero => intro a1 a2 a3 a4 σ h; exact h.elim
  | succ n ih =>
    intro a1 a2 a3 a4 σ h
    refine xJ.iload (o_VectorSolverModel_areSame 25 rfl) rfl ?_
    refine xJ.aload_n (o_VectorSolverModel_areSame 26 rfl) rfl ?_
    refine xJ.getfield (o_VectorSolverModel_areSame 27 rfl) f_VectorSolverModel_32 rfl rfl ?_
    refine xJ.iload_n (o_VectorSolverModel_areSame 28 rfl) rfl ?_
    refine xJ.iaload (o_VectorSolverModel_areSame 29 rfl) rfl h.1 ?_
    replace h := h.2
    refine xJ.aload_n (o_VectorSolverModel_areSame 30 rfl) rfl ?_
    refine xJ.getfield (o_VectorSolverModel_areSame 31 rfl) f_VectorSolverModel_28 rfl rfl ?_
    refine xJ.iload_n (o_VectorSolverModel_areSame 32 rfl) rfl ?_
    refine xJ.iaload (o_VectorSolverModel_areSame 33 rfl) rfl h.1 ?_
    replace h := h.2
    refine xJ.isub (o_VectorSolverModel_areSame 34 rfl) ?_
    refine xJ.icmp_ge (tgt := 103) (o_VectorSolverModel_areSame 35 rfl) (by decide) (fun z => ?_) (fun z => ?_)
    · replace h := h.1 z
      refine xJ.iload_n (o_VectorSolverModel_areSame 63 rfl) rfl ?_
      exact xJ.zreturn (o_VectorSolverModel_areSame 64 rfl) rfl h.1 h.2
    · replace h := h.2 z
      refine xJ.iload_n (o_VectorSolverModel_areSame 36 rfl) rfl ?_
      refine xJ.if_eq (tgt := 103) (o_VectorSolverModel_areSame 37 rfl) (by decide) (fun z => ?_) (fun z => ?_)
      · replace h := h.1 z
        refine xJ.iload_n (o_VectorSolverModel_areSame 63 rfl) rfl ?_
        exact xJ.zreturn (o_VectorSolverModel_areSame 64 rfl) rfl h.1 h.2
      · replace h := h.2 z
        refine xJ.aload_n (o_VectorSolverModel_areSame 38 rfl) rfl ?_
        refine xJ.getfield (o_VectorSolverModel_areSame 39 rfl) f_VectorSolverModel_16 rfl rfl ?_
        refine xJ.aload_n (o_VectorSolverModel_areSame 40 rfl) rfl ?_
        refine xJ.getfield (o_VectorSolverModel_areSame 41 rfl) f_VectorSolverModel_28 rfl rfl ?_
        refine xJ.iload_n (o_VectorSolverModel_areSame 42 rfl) rfl ?_
        refine xJ.iaload (o_VectorSolverModel_areSame 43 rfl) rfl h.1 ?_
        replace h := h.2
        refine xJ.iload (o_VectorSolverModel_areSame 44 rfl) rfl ?_
        refine xJ.iadd (o_VectorSolverModel_areSame 45 rfl) ?_
        refine xJ.baload (o_VectorSolverModel_areSame 46 rfl) rfl h.1 ?_
        replace h := h.2
        refine xJ.aload_n (o_VectorSolverModel_areSame 47 rfl) rfl ?_
        refine xJ.getfield (o_VectorSolverModel_areSame 48 rfl) f_VectorSolverModel_16 rfl rfl ?_
        refine xJ.aload_n (o_VectorSolverModel_areSame 49 rfl) rfl ?_
        refine xJ.getfield (o_VectorSolverModel_areSame 50 rfl) f_VectorSolverModel_28 rfl rfl ?_
        refine xJ.iload_n (o_VectorSolverModel_areSame 51 rfl) rfl ?_
        refine xJ.iaload (o_VectorSolverModel_areSame 52 rfl) rfl h.1 ?_
        replace h := h.2
        refine xJ.iload (o_VectorSolverModel_areSame 53 rfl) rfl ?_
        refine xJ.iadd (o_VectorSolverModel_areSame 54 rfl) ?_
        refine xJ.baload (o_VectorSolverModel_areSame 55 rfl) rfl h.1 ?_
        replace h := h.2
        refine xJ.icmp_ne (tgt := 95) (o_VectorSolverModel_areSame 56 rfl) (by decide) (fun z => ?_) (fun z => ?_)
        · replace h := h.1 z
          refine xJ.iconst (v := 0) (o_VectorSolverModel_areSame 59 rfl) (by decide) ?_
          refine xJ.istore_n (o_VectorSolverModel_areSame 60 rfl) (by decide) ?_
          refine xJ.iincC (w := 1) (o_VectorSolverModel_areSame 61 rfl) rfl (by decide) (by decide) ?_
          replace h := h _ rfl
          refine xJ.goto (tgt := 38) (o_VectorSolverModel_areSame 62 rfl) (by decide) ?_
          exact xJ.lvs (by exact ⟨rfl, rfl, rfl, rfl, rfl, trivial⟩) (ih _ _ _ _ _ h)
        · replace h := h.2 z
          refine xJ.iconst (v := 1) (o_VectorSolverModel_areSame 57 rfl) (by decide) ?_
          refine xJ.goto (tgt := 96) (o_VectorSolverModel_areSame 58 rfl) (by decide) ?_
          refine xJ.istore_n (o_VectorSolverModel_areSame 60 rfl) (by decide) ?_
          refine xJ.iincC (w := 1) (o_VectorSolverModel_areSame 61 rfl) rfl (by decide) (by decide) ?_
          replace h := h _ rfl
          refine xJ.goto (tgt := 38) (o_VectorSolverModel_areSame 62 rfl) (by decide) ?_
          exact xJ.lvs (by exact ⟨rfl, rfl, rfl, rfl, rfl, trivial⟩) (ih _ _ _ _ _ h)
set_option maxRecDepth 20000 in
theorem s_VectorSolverModel_areSame {γ : xG1} {d : Nat} {Q : xO → xS → Prop} {σ : xS} {a1 : Int32} {a2 : Int32} (h : wp_VectorSolverModel_areSame Q σ a1 a2) : xM (SHP, γ) Y_VectorSolverModel_areSame (d + 0) [.ref 50, .int a1, .int a2] σ Q := by
  refine xM.of (by decide) (Nat.le_of_ble_eq_true rfl) ?_
  refine xJ.aload_n (o_VectorSolverModel_areSame 0 rfl) rfl ?_
  refine xJ.getfield (o_VectorSolverModel_areSame 1 rfl) f_VectorSolverModel_32 rfl rfl ?_
  refine xJ.iload_n (o_VectorSolverModel_areSame 2 rfl) rfl ?_
  refine xJ.iaload (o_VectorSolverModel_areSame 3 rfl) rfl h.1 ?_
  replace h := h.2
  refine xJ.aload_n (o_VectorSolverModel_areSame 4 rfl) rfl ?_
  refine xJ.getfield (o_VectorSolverModel_areSame 5 rfl) f_VectorSolverModel_28 rfl rfl ?_
  refine xJ.iload_n (o_VectorSolverModel_areSame 6 rfl) rfl ?_
  refine xJ.iaload (o_VectorSolverModel_areSame 7 rfl) rfl h.1 ?_
  replace h := h.2
  refine xJ.isub (o_VectorSolverModel_areSame 8 rfl) ?_
  refine xJ.aload_n (o_VectorSolverModel_areSame 9 rfl) rfl ?_
  refine xJ.getfield (o_VectorSolverModel_areSame 10 rfl) f_VectorSolverModel_32 rfl rfl ?_
  refine xJ.iload_n (o_VectorSolverModel_areSame 11 rfl) rfl ?_
  refine xJ.iaload (o_VectorSolverModel_areSame 12 rfl) rfl h.1 ?_
  replace h := h.2
  refine xJ.aload_n (o_VectorSolverModel_areSame 13 rfl) rfl ?_
  refine xJ.getfield (o_VectorSolverModel_areSame 14 rfl) f_VectorSolverModel_28 rfl rfl ?_
  refine xJ.iload_n (o_VectorSolverModel_areSame 15 rfl) rfl ?_
  refine xJ.iaload (o_VectorSolverModel_areSame 16 rfl) rfl h.1 ?_
  replace h := h.2
  refine xJ.isub (o_VectorSolverModel_areSame 17 rfl) ?_
  refine xJ.icmp_ne (tgt := 33) (o_VectorSolverModel_areSame 18 rfl) (by decide) (fun z => ?_) (fun z => ?_)
  · replace h := h.1 z
    refine xJ.iconst (v := 0) (o_VectorSolverModel_areSame 21 rfl) (by decide) ?_
    refine xJ.istore_n (o_VectorSolverModel_areSame 22 rfl) (by decide) ?_
    refine xJ.iconst (v := 0) (o_VectorSolverModel_areSame 23 rfl) (by decide) ?_
    refine xJ.istore (o_VectorSolverModel_areSame 24 rfl) (by decide) ?_
    obtain ⟨m, h⟩ := h
    exact xJ.lvs (by exact ⟨rfl, rfl, rfl, rfl, rfl, trivial⟩) (sw_VectorSolverModel_areSame_38 m _ _ _ _ _ h)
  · replace h := h.2 z
    refine xJ.iconst (v := 1) (o_VectorSolverModel_areSame 19 rfl) (by decide) ?_
    refine xJ.goto (tgt := 34) (o_VectorSolverModel_areSame 20 rfl) (by decide) ?_
    refine xJ.istore_n (o_VectorSolverModel_areSame 22 rfl) (by decide) ?_
    refine xJ.iconst (v := 0) (o_VectorSolverModel_areSame 23 rfl) (by decide) ?_
    refine xJ.istore (o_VectorSolverModel_areSame 24 rfl) (by decide) ?_
    obtain ⟨m, h⟩ := h
    exact xJ.lvs (by exact ⟨rfl, rfl, rfl, rfl, rfl, trivial⟩) (sw_VectorSolverModel_areSame_38 m _ _ _ _ _ h)
def w_VectorSolverModel_bind_126 (Q : xO → xS → Prop) (t1 : Int32) (σ : xS) : Prop :=
  (vp_in (xi σ 50 10) 65537 ∧ wp_VectorSolverModel_want (xqi (fun r6 u5 => ((r6 = 0 → Q (.inl none) u5) ∧ (¬ r6 = 0 → (vp_in (xi u5 50 38) 16 ∧ (∀ s7 : xS, s7 = xpi u5 77 (xi u5 50 38).toNatClampNeg (xi u5 50 10) → (vp_in (xi s7 50 38) 16 ∧ (∀ s8 : xS, s8 = xpi s7 79 (xi s7 50 38).toNatClampNeg ((xi s7 50 29) - 1) → (∀ s9 : xS, s9 = xpi s8 50 38 ((xi s8 50 38) + 1) → Q (.inl none) s9)))))))) (fun n u => Q (.inr n) u)) σ t1 11 (xi σ 53 (xi σ 50 10).toNatClampNeg))
def w_VectorSolverModel_bind_96 (Q : xO → xS → Prop) (t1 : Int32) (σ : xS) : Prop :=
  (vp_in (xi σ 50 10) 65537 ∧ wp_VectorSolverModel_want (xqi (fun r4 u3 => ((16 ≤ (xi u3 50 38) → w_VectorSolverModel_bind_126 Q 0 u3) ∧ (¬ 16 ≤ (xi u3 50 38) → w_VectorSolverModel_bind_126 Q 1 u3))) (fun n u => Q (.inr n) u)) σ t1 6 (xi σ 53 (xi σ 50 10).toNatClampNeg))
def w_VectorSolverModel_bind_74 (Q : xO → xS → Prop) (K30 : Int32 → Int32 → xS → Prop) (a2 : Int32) (σ : xS) : Prop :=
  (∀ x10 : Int32, x10 = a2 + 1 → K30 1 x10 σ)
def w_VectorSolverModel_bind_30 (Q : xO → xS → Prop) : Nat → Int32 → Int32 → xS → Prop
  | 0 => fun _ _ _ => False
  | n + 1 => fun a1 a2 σ =>
    (((xi σ 50 38) ≤ a2 → ((¬ a1 = 0 → w_VectorSolverModel_bind_96 Q 0 σ) ∧ (a1 = 0 → w_VectorSolverModel_bind_96 Q 1 σ))) ∧ (¬ (xi σ 50 38) ≤ a2 → ((¬ a1 = 0 → w_VectorSolverModel_bind_74 Q (w_VectorSolverModel_bind_30 Q n) a2 σ) ∧ (a1 = 0 → (vp_in a2 16 ∧ ((¬ (xi σ 79 a2.toNatClampNeg) = ((xi σ 50 29) - 1) → (∀ x11 : Int32, x11 = a2 + 1 → w_VectorSolverModel_bind_30 Q n 0 x11 σ)) ∧ ((xi σ 79 a2.toNatClampNeg) = ((xi σ 50 29) - 1) → (vp_in a2 16 ∧ wp_VectorSolverModel_areSame (xqi (fun r13 u12 => ((r13 = 0 → (∀ x14 : Int32, x14 = a2 + 1 → w_VectorSolverModel_bind_30 Q n 0 x14 u12)) ∧ (¬ r13 = 0 → w_VectorSolverModel_bind_74 Q (w_VectorSolverModel_bind_30 Q n) a2 u12))) (fun n u => Q (.inr n) u)) σ (xi σ 77 a2.toNatClampNeg) (xi σ 50 10)))))))))
def wp_VectorSolverModel_bind (Q : xO → xS → Prop) (σ : xS)  : Prop :=
  wp_VectorSolverModel_need (xqi (fun r2 u1 => ((¬ r2 = 0 → (vp_in (xi u1 50 10) 65537 ∧ (((xi u1 55 (xi u1 50 10).toNatClampNeg) < 0 → ∃ m, w_VectorSolverModel_bind_30 Q m 0 0 u1) ∧ (¬ (xi u1 55 (xi u1 50 10).toNatClampNeg) < 0 → ∃ m, w_VectorSolverModel_bind_30 Q m 1 0 u1)))) ∧ (r2 = 0 → Q (.inl none) u1))) (fun n u => Q (.inr n) u)) σ 6
set_option maxRecDepth 20000 in
theorem sw_VectorSolverModel_bind_126 {γ : xG1} {d b0 : Nat} {Q : xO → xS → Prop} {t1 : Int32} {σ : xS} (h : w_VectorSolverModel_bind_126 Q t1 σ) : xJ (SHP, γ) Y_VectorSolverModel_bind (d + 3) b0 126 [(0, .ref 50)] [.int t1, .ref 50] σ Q := by
  refine xJ.bipush (v := 11) (o_VectorSolverModel_bind 69 rfl) (by decide) ?_
  refine xJ.aload_n (o_VectorSolverModel_bind 70 rfl) rfl ?_
  refine xJ.getfield (o_VectorSolverModel_bind 71 rfl) f_VectorSolverModel_28 rfl rfl ?_
  refine xJ.aload_n (o_VectorSolverModel_bind 72 rfl) rfl ?_
  refine xJ.getfield (o_VectorSolverModel_bind 73 rfl) f_VectorSolverModel_169 rfl rfl ?_
  refine xJ.iaload (o_VectorSolverModel_bind 74 rfl) rfl h.1 ?_
  replace h := h.2
  refine xJ.callV (Y' := Y_VectorSolverModel_want) (o_VectorSolverModel_bind 75 rfl) m_VectorSolverModel_172 y_VectorSolverModel_want im_VectorSolverModel_want se_VectorSolverModel_want rfl rfl (s_VectorSolverModel_want h) rfl rfl (Nat.le_of_ble_eq_true rfl) (fun _ hx => by cases hx) (fun v u q => ?_) (fun n u q => q)
  obtain ⟨r, rfl, h⟩ := xqi_get q
  refine xJ.if_eq (tgt := 181) (o_VectorSolverModel_bind 76 rfl) (by decide) (fun z => ?_) (fun z => ?_)
  · replace h := h.1 z
    exact xJ.return_ (o_VectorSolverModel_bind 99 rfl) rfl h
  · replace h := h.2 z
    refine xJ.aload_n (o_VectorSolverModel_bind 77 rfl) rfl ?_
    refine xJ.getfield (o_VectorSolverModel_bind 78 rfl) f_VectorSolverModel_103 rfl rfl ?_
    refine xJ.aload_n (o_VectorSolverModel_bind 79 rfl) rfl ?_
    refine xJ.getfield (o_VectorSolverModel_bind 80 rfl) f_VectorSolverModel_270 rfl rfl ?_
    refine xJ.aload_n (o_VectorSolverModel_bind 81 rfl) rfl ?_
    refine xJ.getfield (o_VectorSolverModel_bind 82 rfl) f_VectorSolverModel_169 rfl rfl ?_
    refine xJ.iastore (o_VectorSolverModel_bind 83 rfl) rfl h.1 ?_
    replace h := h.2
    replace h := h _ rfl
    refine xJ.aload_n (o_VectorSolverModel_bind 84 rfl) rfl ?_
    refine xJ.getfield (o_VectorSolverModel_bind 85 rfl) f_VectorSolverModel_109 rfl rfl ?_
    refine xJ.aload_n (o_VectorSolverModel_bind 86 rfl) rfl ?_
    refine xJ.getfield (o_VectorSolverModel_bind 87 rfl) f_VectorSolverModel_270 rfl rfl ?_
    refine xJ.aload_n (o_VectorSolverModel_bind 88 rfl) rfl ?_
    refine xJ.getfield (o_VectorSolverModel_bind 89 rfl) f_VectorSolverModel_264 rfl rfl ?_
    refine xJ.iconst (v := 1) (o_VectorSolverModel_bind 90 rfl) (by decide) ?_
    refine xJ.isub (o_VectorSolverModel_bind 91 rfl) ?_
    refine xJ.iastore (o_VectorSolverModel_bind 92 rfl) rfl h.1 ?_
    replace h := h.2
    replace h := h _ rfl
    refine xJ.aload_n (o_VectorSolverModel_bind 93 rfl) rfl ?_
    refine xJ.dup (o_VectorSolverModel_bind 94 rfl) rfl ?_
    refine xJ.getfield (o_VectorSolverModel_bind 95 rfl) f_VectorSolverModel_270 rfl rfl ?_
    refine xJ.iconst (v := 1) (o_VectorSolverModel_bind 96 rfl) (by decide) ?_
    refine xJ.iadd (o_VectorSolverModel_bind 97 rfl) ?_
    refine xJ.putI (o_VectorSolverModel_bind 98 rfl) f_VectorSolverModel_270 rfl rfl rfl ?_
    replace h := h _ rfl
    exact xJ.return_ (o_VectorSolverModel_bind 99 rfl) rfl h
set_option maxRecDepth 20000 in
theorem sw_VectorSolverModel_bind_96 {γ : xG1} {d b0 : Nat} {Q : xO → xS → Prop} {t1 : Int32} {σ : xS} (h : w_VectorSolverModel_bind_96 Q t1 σ) : xJ (SHP, γ) Y_VectorSolverModel_bind (d + 3) b0 96 [(0, .ref 50)] [.int t1, .ref 50] σ Q := by
  refine xJ.bipush (v := 6) (o_VectorSolverModel_bind 53 rfl) (by decide) ?_
  refine xJ.aload_n (o_VectorSolverModel_bind 54 rfl) rfl ?_
  refine xJ.getfield (o_VectorSolverModel_bind 55 rfl) f_VectorSolverModel_28 rfl rfl ?_
  refine xJ.aload_n (o_VectorSolverModel_bind 56 rfl) rfl ?_
  refine xJ.getfield (o_VectorSolverModel_bind 57 rfl) f_VectorSolverModel_169 rfl rfl ?_
  refine xJ.iaload (o_VectorSolverModel_bind 58 rfl) rfl h.1 ?_
  replace h := h.2
  refine xJ.callV (Y' := Y_VectorSolverModel_want) (o_VectorSolverModel_bind 59 rfl) m_VectorSolverModel_172 y_VectorSolverModel_want im_VectorSolverModel_want se_VectorSolverModel_want rfl rfl (s_VectorSolverModel_want h) rfl rfl (Nat.le_of_ble_eq_true rfl) (fun _ hx => by cases hx) (fun v u q => ?_) (fun n u q => q)
  obtain ⟨r, rfl, h⟩ := xqi_get q
  refine xJ.istore_n (o_VectorSolverModel_bind 60 rfl) (by decide) ?_
  refine xJ.aload_n (o_VectorSolverModel_bind 61 rfl) rfl ?_
  refine xJ.aload_n (o_VectorSolverModel_bind 62 rfl) rfl ?_
  refine xJ.getfield (o_VectorSolverModel_bind 63 rfl) f_VectorSolverModel_270 rfl rfl ?_
  refine xJ.bipush (v := 16) (o_VectorSolverModel_bind 64 rfl) (by decide) ?_
  refine xJ.icmp_ge (tgt := 125) (o_VectorSolverModel_bind 65 rfl) (by decide) (fun z => ?_) (fun z => ?_)
  · replace h := h.1 z
    refine xJ.iconst (v := 0) (o_VectorSolverModel_bind 68 rfl) (by decide) ?_
    exact xJ.lvs (by exact ⟨rfl, trivial⟩) (sw_VectorSolverModel_bind_126 h)
  · replace h := h.2 z
    refine xJ.iconst (v := 1) (o_VectorSolverModel_bind 66 rfl) (by decide) ?_
    refine xJ.goto (tgt := 126) (o_VectorSolverModel_bind 67 rfl) (by decide) ?_
    exact xJ.lvs (by exact ⟨rfl, trivial⟩) (sw_VectorSolverModel_bind_126 h)
set_option maxRecDepth 20000 in
theorem sw_VectorSolverModel_bind_74 {γ : xG1} {d b0 : Nat} {Q : xO → xS → Prop} {K30 : Int32 → Int32 → xS → Prop} (hK30 : ∀ a1 a2 σ, K30 a1 a2 σ → xJ (SHP, γ) Y_VectorSolverModel_bind (d + 3) b0 30 [(0, .ref 50), (1, .int a1), (2, .int a2)] [] σ Q) {a2 : Int32} {σ : xS} (h : w_VectorSolverModel_bind_74 Q K30 a2 σ) : xJ (SHP, γ) Y_VectorSolverModel_bind (d + 3) b0 74 [(0, .ref 50), (2, .int a2)] [] σ Q := by
  refine xJ.iconst (v := 1) (o_VectorSolverModel_bind 41 rfl) (by decide) ?_
  refine xJ.goto (tgt := 79) (o_VectorSolverModel_bind 42 rfl) (by decide) ?_
  refine xJ.istore_n (o_VectorSolverModel_bind 44 rfl) (by decide) ?_
  refine xJ.iincC (w := 1) (o_VectorSolverModel_bind 45 rfl) rfl (by decide) (by decide) ?_
  replace h := h _ rfl
  refine xJ.goto (tgt := 30) (o_VectorSolverModel_bind 46 rfl) (by decide) ?_
  exact xJ.lvs (by exact ⟨rfl, rfl, rfl, trivial⟩) (hK30 _ _ _ h)
set_option maxRecDepth 20000 in
theorem sw_VectorSolverModel_bind_30 {γ : xG1} {d b0 : Nat} {Q : xO → xS → Prop} : ∀ (n : Nat) (a1 : Int32) (a2 : Int32) (σ : xS), w_VectorSolverModel_bind_30 Q n a1 a2 σ → xJ (SHP, γ) Y_VectorSolverModel_bind (d + 3) b0 30 [(0, .ref 50), (1, .int a1), (2, .int a2)] [] σ Q := by
  intro n
  induction n with
  | zero => intro a1 a2 σ h; exact h.elim
  | succ n ih =>
    intro a1 a2 σ h
    refine xJ.iload_n (o_VectorSolverModel_bind 17 rfl) rfl ?_
    refine xJ.aload_n (o_VectorSolverModel_bind 18 rfl) rfl ?_
    refine xJ.getfield (o_VectorSolverModel_bind 19 rfl) f_VectorSolverModel_270 rfl rfl ?_
    refine xJ.icmp_ge (tgt := 86) (o_VectorSolverModel_bind 20 rfl) (by decide) (fun z => ?_) (fun z => ?_)
    · replace h := h.1 z
      refine xJ.aload_n (o_VectorSolverModel_bind 47 rfl) rfl ?_
      refine xJ.iload_n (o_VectorSolverModel_bind 48 rfl) rfl ?_
      refine xJ.if_ne (tgt := 95) (o_VectorSolverModel_bind 49 rfl) (by decide) (fun z => ?_) (fun z => ?_)
      · replace h := h.1 z
        refine xJ.iconst (v := 0) (o_VectorSolverModel_bind 52 rfl) (by decide) ?_
        exact xJ.lvs (by exact ⟨rfl, trivial⟩) (sw_VectorSolverModel_bind_96 h)
      · replace h := h.2 z
        refine xJ.iconst (v := 1) (o_VectorSolverModel_bind 50 rfl) (by decide) ?_
        refine xJ.goto (tgt := 96) (o_VectorSolverModel_bind 51 rfl) (by decide) ?_
        exact xJ.lvs (by exact ⟨rfl, trivial⟩) (sw_VectorSolverModel_bind_96 h)
    · replace h := h.2 z
      refine xJ.iload_n (o_VectorSolverModel_bind 21 rfl) rfl ?_
      refine xJ.if_ne (tgt := 74) (o_VectorSolverModel_bind 22 rfl) (by decide) (fun z => ?_) (fun z => ?_)
      · replace h := h.1 z
        exact xJ.lvs (by exact ⟨rfl, rfl, trivial⟩) (sw_VectorSolverModel_bind_74 ih h)
      · replace h := h.2 z
        refine xJ.aload_n (o_VectorSolverModel_bind 23 rfl) rfl ?_
        refine xJ.getfield (o_VectorSolverModel_bind 24 rfl) f_VectorSolverModel_109 rfl rfl ?_
        refine xJ.iload_n (o_VectorSolverModel_bind 25 rfl) rfl ?_
        refine xJ.iaload (o_VectorSolverModel_bind 26 rfl) rfl h.1 ?_
        replace h := h.2
        refine xJ.aload_n (o_VectorSolverModel_bind 27 rfl) rfl ?_
        refine xJ.getfield (o_VectorSolverModel_bind 28 rfl) f_VectorSolverModel_264 rfl rfl ?_
        refine xJ.iconst (v := 1) (o_VectorSolverModel_bind 29 rfl) (by decide) ?_
        refine xJ.isub (o_VectorSolverModel_bind 30 rfl) ?_
        refine xJ.icmp_ne (tgt := 78) (o_VectorSolverModel_bind 31 rfl) (by decide) (fun z => ?_) (fun z => ?_)
        · replace h := h.1 z
          refine xJ.iconst (v := 0) (o_VectorSolverModel_bind 43 rfl) (by decide) ?_
          refine xJ.istore_n (o_VectorSolverModel_bind 44 rfl) (by decide) ?_
          refine xJ.iincC (w := 1) (o_VectorSolverModel_bind 45 rfl) rfl (by decide) (by decide) ?_
          replace h := h _ rfl
          refine xJ.goto (tgt := 30) (o_VectorSolverModel_bind 46 rfl) (by decide) ?_
          exact xJ.lvs (by exact ⟨rfl, rfl, rfl, trivial⟩) (ih _ _ _ h)
        · replace h := h.2 z
          refine xJ.aload_n (o_VectorSolverModel_bind 32 rfl) rfl ?_
          refine xJ.aload_n (o_VectorSolverModel_bind 33 rfl) rfl ?_
          refine xJ.getfield (o_VectorSolverModel_bind 34 rfl) f_VectorSolverModel_103 rfl rfl ?_
          refine xJ.iload_n (o_VectorSolverModel_bind 35 rfl) rfl ?_
          refine xJ.iaload (o_VectorSolverModel_bind 36 rfl) rfl h.1 ?_
          replace h := h.2
          refine xJ.aload_n (o_VectorSolverModel_bind 37 rfl) rfl ?_
          refine xJ.getfield (o_VectorSolverModel_bind 38 rfl) f_VectorSolverModel_169 rfl rfl ?_
          refine xJ.callV (Y' := Y_VectorSolverModel_areSame) (o_VectorSolverModel_bind 39 rfl) m_VectorSolverModel_289 y_VectorSolverModel_areSame im_VectorSolverModel_areSame se_VectorSolverModel_areSame rfl rfl (s_VectorSolverModel_areSame h) rfl rfl (Nat.le_of_ble_eq_true rfl) (fun _ hx => by cases hx) (fun v u q => ?_) (fun n u q => q)
          obtain ⟨r, rfl, h⟩ := xqi_get q
          refine xJ.if_eq (tgt := 78) (o_VectorSolverModel_bind 40 rfl) (by decide) (fun z => ?_) (fun z => ?_)
          · replace h := h.1 z
            refine xJ.iconst (v := 0) (o_VectorSolverModel_bind 43 rfl) (by decide) ?_
            refine xJ.istore_n (o_VectorSolverModel_bind 44 rfl) (by decide) ?_
            refine xJ.iincC (w := 1) (o_VectorSolverModel_bind 45 rfl) rfl (by decide) (by decide) ?_
            replace h := h _ rfl
            refine xJ.goto (tgt := 30) (o_VectorSolverModel_bind 46 rfl) (by decide) ?_
            exact xJ.lvs (by exact ⟨rfl, rfl, rfl, trivial⟩) (ih _ _ _ h)
          · replace h := h.2 z
            exact xJ.lvs (by exact ⟨rfl, rfl, trivial⟩) (sw_VectorSolverModel_bind_74 ih h)
set_option maxRecDepth 20000 in
theorem s_VectorSolverModel_bind {γ : xG1} {d : Nat} {Q : xO → xS → Prop} {σ : xS}  (h : wp_VectorSolverModel_bind Q σ ) : xM (SHP, γ) Y_VectorSolverModel_bind (d + 3) [.ref 50] σ Q := by
  refine xM.of (by decide) (Nat.le_of_ble_eq_true rfl) ?_
  refine xJ.aload_n (o_VectorSolverModel_bind 0 rfl) rfl ?_
  refine xJ.bipush (v := 6) (o_VectorSolverModel_bind 1 rfl) (by decide) ?_
  refine xJ.callV (Y' := Y_VectorSolverModel_need) (o_VectorSolverModel_bind 2 rfl) m_VectorSolverModel_186 y_VectorSolverModel_need im_VectorSolverModel_need se_VectorSolverModel_need rfl rfl (s_VectorSolverModel_need h) rfl rfl (Nat.le_of_ble_eq_true rfl) (fun _ hx => by cases hx) (fun v u q => ?_) (fun n u q => q)
  obtain ⟨r, rfl, h⟩ := xqi_get q
  refine xJ.if_ne (tgt := 10) (o_VectorSolverModel_bind 3 rfl) (by decide) (fun z => ?_) (fun z => ?_)
  · replace h := h.1 z
    refine xJ.aload_n (o_VectorSolverModel_bind 5 rfl) rfl ?_
    refine xJ.getfield (o_VectorSolverModel_bind 6 rfl) f_VectorSolverModel_35 rfl rfl ?_
    refine xJ.aload_n (o_VectorSolverModel_bind 7 rfl) rfl ?_
    refine xJ.getfield (o_VectorSolverModel_bind 8 rfl) f_VectorSolverModel_169 rfl rfl ?_
    refine xJ.baload (o_VectorSolverModel_bind 9 rfl) rfl h.1 ?_
    replace h := h.2
    refine xJ.if_lt (tgt := 26) (o_VectorSolverModel_bind 10 rfl) (by decide) (fun z => ?_) (fun z => ?_)
    · replace h := h.1 z
      refine xJ.iconst (v := 0) (o_VectorSolverModel_bind 13 rfl) (by decide) ?_
      refine xJ.istore_n (o_VectorSolverModel_bind 14 rfl) (by decide) ?_
      refine xJ.iconst (v := 0) (o_VectorSolverModel_bind 15 rfl) (by decide) ?_
      refine xJ.istore_n (o_VectorSolverModel_bind 16 rfl) (by decide) ?_
      obtain ⟨m, h⟩ := h
      exact xJ.lvs (by exact ⟨rfl, rfl, rfl, trivial⟩) (sw_VectorSolverModel_bind_30 m _ _ _ h)
    · replace h := h.2 z
      refine xJ.iconst (v := 1) (o_VectorSolverModel_bind 11 rfl) (by decide) ?_
      refine xJ.goto (tgt := 27) (o_VectorSolverModel_bind 12 rfl) (by decide) ?_
      refine xJ.istore_n (o_VectorSolverModel_bind 14 rfl) (by decide) ?_
      refine xJ.iconst (v := 0) (o_VectorSolverModel_bind 15 rfl) (by decide) ?_
      refine xJ.istore_n (o_VectorSolverModel_bind 16 rfl) (by decide) ?_
      obtain ⟨m, h⟩ := h
      exact xJ.lvs (by exact ⟨rfl, rfl, rfl, trivial⟩) (sw_VectorSolverModel_bind_30 m _ _ _ h)
  · replace h := h.2 z
    exact xJ.return_ (o_VectorSolverModel_bind 4 rfl) rfl h
def w_VectorSolverModel_goOn_259 (Q : xO → xS → Prop) (a3 : Int32) (σ : xS) : Prop :=
  (∀ s4 : xS, s4 = xpi σ 50 29 ((xi σ 50 29) - 1) → ((a3 = 0 ∨ a3 = 1) ∧ Q (.inl (some (.int a3))) s4))
def w_VectorSolverModel_goOn_224 (Q : xO → xS → Prop) : Nat → Int32 → Int32 → xS → Prop
  | 0 => fun _ _ _ => False
  | n + 1 => fun a2 a3 σ =>
    (((xi σ 50 38) ≤ 0 → w_VectorSolverModel_goOn_259 Q a3 σ) ∧ (¬ (xi σ 50 38) ≤ 0 → (vp_in ((xi σ 50 38) - 1) 16 ∧ ((¬ (xi σ 79 ((xi σ 50 38) - 1).toNatClampNeg) = a2 → w_VectorSolverModel_goOn_259 Q a3 σ) ∧ ((xi σ 79 ((xi σ 50 38) - 1).toNatClampNeg) = a2 → (∀ s5 : xS, s5 = xpi σ 50 38 ((xi σ 50 38) - 1) → w_VectorSolverModel_goOn_224 Q n a2 a3 s5))))))
def w_VectorSolverModel_goOn_199 (Q : xO → xS → Prop) (a2 : Int32) (t1 : Int32) (σ : xS) : Prop :=
  wp_VectorSolverModel_must (xqi (fun r12 u11 => ((r12 = 0 → Q (.inl (some (.int 0))) u11) ∧ (¬ r12 = 0 → (vp_in a2 64 ∧ (∀ s13 : xS, s13 = xpi u11 70 a2.toNatClampNeg 2 → wp_VectorSolverModel_next (xqv (fun u14 => Q (.inl (some (.int 0))) u14) (fun n u => Q (.inr n) u)) s13 ))))) (fun n u => Q (.inr n) u)) σ t1
def w_VectorSolverModel_goOn_180 (Q : xO → xS → Prop) (a2 : Int32) (σ : xS) : Prop :=
  (vp_in (xi σ 50 10) 65537 ∧ ((¬ (xi σ 52 (xi σ 50 10).toNatClampNeg) = 2 → w_VectorSolverModel_goOn_199 Q a2 0 σ) ∧ ((xi σ 52 (xi σ 50 10).toNatClampNeg) = 2 → w_VectorSolverModel_goOn_199 Q a2 1 σ)))
def w_VectorSolverModel_goOn_43 (Q : xO → xS → Prop) (a1 : Int32) (a2 : Int32) (t1 : Int32) (σ : xS) : Prop :=
  (vp_in a2 64 ∧ wp_VectorSolverModel_want (xqi (fun r22 u21 => ((¬ r22 = 0 → (vp_in (xi u21 50 36) 2600 ∧ (∀ s23 : xS, s23 = xpi u21 76 (xi u21 50 36).toNatClampNeg a1 → (∀ s24 : xS, s24 = xpi s23 50 36 ((xi s23 50 36) + 1) → wp_VectorSolverModel_next (xqv (fun u25 => ((¬ (xi u25 50 4) = 0 → Q (.inl (some (.int 0))) u25) ∧ ((xi u25 50 4) = 0 → (vp_in (xi u25 50 10) 65537 ∧ ((¬ (xi u25 52 (xi u25 50 10).toNatClampNeg) = 2 → Q (.inl (some (.int 0))) u25) ∧ ((xi u25 52 (xi u25 50 10).toNatClampNeg) = 2 → (∀ s27 : xS, s27 = xpi u25 50 29 ((xi u25 50 29) - 1) → Q (.inl (some (.int 1))) s27))))))) (fun n u => Q (.inr n) u)) s24 )))) ∧ (r22 = 0 → Q (.inl (some (.int 0))) u21))) (fun n u => Q (.inr n) u)) σ t1 11 (xi σ 71 a2.toNatClampNeg))
def wp_VectorSolverModel_goOn (Q : xO → xS → Prop) (σ : xS) (a1 : Int32) : Prop :=
  (∀ x1 : Int32, x1 = ((xi σ 50 29) - 1) → (vp_in x1 64 ∧ ((¬ (xi σ 70 x1.toNatClampNeg) = 0 → (vp_in x1 64 ∧ ((¬ (xi σ 70 x1.toNatClampNeg) = 1 → wp_VectorSolverModel_need (xqi (fun r3 u2 => ∃ m, w_VectorSolverModel_goOn_224 Q m x1 r3 u2) (fun n u => Q (.inr n) u)) σ 2) ∧ ((xi σ 70 x1.toNatClampNeg) = 1 → (vp_in ((xi σ 50 38) - 1) 16 ∧ (∀ s6 : xS, s6 = xpi σ 78 ((xi σ 50 38) - 1).toNatClampNeg a1 → wp_VectorSolverModel_need (xqi (fun r8 u7 => wp_VectorSolverModel_next (xqv (fun u9 => ((¬ (xi u9 50 4) = 0 → w_VectorSolverModel_goOn_180 Q x1 u9) ∧ ((xi u9 50 4) = 0 → (vp_in (xi u9 50 10) 65537 ∧ ((¬ (xi u9 52 (xi u9 50 10).toNatClampNeg) = 1 → w_VectorSolverModel_goOn_180 Q x1 u9) ∧ ((xi u9 52 (xi u9 50 10).toNatClampNeg) = 1 → wp_VectorSolverModel_bind (xqv (fun u16 => wp_VectorSolverModel_next (xqv (fun u18 => Q (.inl (some (.int 0))) u18) (fun n u => Q (.inr n) u)) u16 ) (fun n u => Q (.inr n) u)) u9 )))))) (fun n u => Q (.inr n) u)) u7 ) (fun n u => Q (.inr n) u)) s6 2)))))) ∧ ((xi σ 70 x1.toNatClampNeg) = 0 → (vp_in x1 64 ∧ (vp_in x1 64 ∧ (∀ s20 : xS, s20 = xpi σ 75 x1.toNatClampNeg ((xi σ 75 x1.toNatClampNeg) + 1) → (vp_in x1 64 ∧ ((40 < (xi s20 75 x1.toNatClampNeg) → w_VectorSolverModel_goOn_43 Q a1 x1 0 s20) ∧ (¬ 40 < (xi s20 75 x1.toNatClampNeg) → w_VectorSolverModel_goOn_43 Q a1 x1 1 s20))))))))))
set_option maxRecDepth 20000 in
theorem sw_VectorSolverModel_goOn_259 {γ : xG1} {d b0 : Nat} {Q : xO → xS → Prop} {a3 : Int32} {σ : xS} (h : w_VectorSolverModel_goOn_259 Q a3 σ) : xJ (SHP, γ) Y_VectorSolverModel_goOn (d + 4) b0 259 [(0, .ref 50), (3, .int a3)] [] σ Q := by
  refine xJ.aload_n (o_VectorSolverModel_goOn 151 rfl) rfl ?_
  refine xJ.dup (o_VectorSolverModel_goOn 152 rfl) rfl ?_
  refine xJ.getfield (o_VectorSolverModel_goOn 153 rfl) f_VectorSolverModel_264 rfl rfl ?_
  refine xJ.iconst (v := 1) (o_VectorSolverModel_goOn 154 rfl) (by decide) ?_
  refine xJ.isub (o_VectorSolverModel_goOn 155 rfl) ?_
  refine xJ.putI (o_VectorSolverModel_goOn 156 rfl) f_VectorSolverModel_264 rfl rfl rfl ?_
  replace h := h _ rfl
  refine xJ.iload_n (o_VectorSolverModel_goOn 157 rfl) rfl ?_
  exact xJ.zreturn (o_VectorSolverModel_goOn 158 rfl) rfl h.1 h.2
set_option maxRecDepth 20000 in
theorem sw_VectorSolverModel_goOn_224 {γ : xG1} {d b0 : Nat} {Q : xO → xS → Prop} : ∀ (n : Nat) (a2 : Int32) (a3 : Int32) (σ : xS), w_VectorSolverModel_goOn_224 Q n a2 a3 σ → xJ (SHP, γ) Y_VectorSolverModel_goOn (d + 4) b0 224 [(0, .ref 50), (2, .int a2), (3, .int a3)] [] σ Q := by
  intro n
  induction n with
  | zero => intro a2 a3 σ h; exact h.elim
  | succ n ih =>
    intro a2 a3 σ h
    refine xJ.aload_n (o_VectorSolverModel_goOn 132 rfl) rfl ?_
    refine xJ.getfield (o_VectorSolverModel_goOn 133 rfl) f_VectorSolverModel_270 rfl rfl ?_
    refine xJ.if_le (tgt := 259) (o_VectorSolverModel_goOn 134 rfl) (by decide) (fun z => ?_) (fun z => ?_)
    · replace h := h.1 z
      exact xJ.lvs (by exact ⟨rfl, rfl, trivial⟩) (sw_VectorSolverModel_goOn_259 h)
    · replace h := h.2 z
      refine xJ.aload_n (o_VectorSolverModel_goOn 135 rfl) rfl ?_
      refine xJ.getfield (o_VectorSolverModel_goOn 136 rfl) f_VectorSolverModel_109 rfl rfl ?_
      refine xJ.aload_n (o_VectorSolverModel_goOn 137 rfl) rfl ?_
      refine xJ.getfield (o_VectorSolverModel_goOn 138 rfl) f_VectorSolverModel_270 rfl rfl ?_
      refine xJ.iconst (v := 1) (o_VectorSolverModel_goOn 139 rfl) (by decide) ?_
      refine xJ.isub (o_VectorSolverModel_goOn 140 rfl) ?_
      refine xJ.iaload (o_VectorSolverModel_goOn 141 rfl) rfl h.1 ?_
      replace h := h.2
      refine xJ.iload_n (o_VectorSolverModel_goOn 142 rfl) rfl ?_
      refine xJ.icmp_ne (tgt := 259) (o_VectorSolverModel_goOn 143 rfl) (by decide) (fun z => ?_) (fun z => ?_)
      · replace h := h.1 z
        exact xJ.lvs (by exact ⟨rfl, rfl, trivial⟩) (sw_VectorSolverModel_goOn_259 h)
      · replace h := h.2 z
        refine xJ.aload_n (o_VectorSolverModel_goOn 144 rfl) rfl ?_
        refine xJ.dup (o_VectorSolverModel_goOn 145 rfl) rfl ?_
        refine xJ.getfield (o_VectorSolverModel_goOn 146 rfl) f_VectorSolverModel_270 rfl rfl ?_
        refine xJ.iconst (v := 1) (o_VectorSolverModel_goOn 147 rfl) (by decide) ?_
        refine xJ.isub (o_VectorSolverModel_goOn 148 rfl) ?_
        refine xJ.putI (o_VectorSolverModel_goOn 149 rfl) f_VectorSolverModel_270 rfl rfl rfl ?_
        replace h := h _ rfl
        refine xJ.goto (tgt := 224) (o_VectorSolverModel_goOn 150 rfl) (by decide) ?_
        exact xJ.lvs (by exact ⟨rfl, rfl, rfl, trivial⟩) (ih _ _ _ h)
set_option maxRecDepth 20000 in
theorem sw_VectorSolverModel_goOn_199 {γ : xG1} {d b0 : Nat} {Q : xO → xS → Prop} {a2 : Int32} {t1 : Int32} {σ : xS} (h : w_VectorSolverModel_goOn_199 Q a2 t1 σ) : xJ (SHP, γ) Y_VectorSolverModel_goOn (d + 4) b0 199 [(0, .ref 50), (2, .int a2)] [.int t1, .ref 50] σ Q := by
  refine xJ.callV (Y' := Y_VectorSolverModel_must) (o_VectorSolverModel_goOn 117 rfl) m_VectorSolverModel_179 y_VectorSolverModel_must im_VectorSolverModel_must se_VectorSolverModel_must rfl rfl (s_VectorSolverModel_must h) rfl rfl (Nat.le_of_ble_eq_true rfl) (fun _ hx => by cases hx) (fun v u q => ?_) (fun n u q => q)
  obtain ⟨r, rfl, h⟩ := xqi_get q
  refine xJ.if_eq (tgt := 216) (o_VectorSolverModel_goOn 118 rfl) (by decide) (fun z => ?_) (fun z => ?_)
  · replace h := h.1 z
    refine xJ.iconst (v := 0) (o_VectorSolverModel_goOn 126 rfl) (by decide) ?_
    exact xJ.zreturn (o_VectorSolverModel_goOn 127 rfl) rfl (Or.inl rfl) h
  · replace h := h.2 z
    refine xJ.aload_n (o_VectorSolverModel_goOn 119 rfl) rfl ?_
    refine xJ.getfield (o_VectorSolverModel_goOn 120 rfl) f_VectorSolverModel_82 rfl rfl ?_
    refine xJ.iload_n (o_VectorSolverModel_goOn 121 rfl) rfl ?_
    refine xJ.iconst (v := 2) (o_VectorSolverModel_goOn 122 rfl) (by decide) ?_
    refine xJ.iastore (o_VectorSolverModel_goOn 123 rfl) rfl h.1 ?_
    replace h := h.2
    replace h := h _ rfl
    refine xJ.aload_n (o_VectorSolverModel_goOn 124 rfl) rfl ?_
    refine xJ.callV (Y' := Y_VectorSolverModel_next) (o_VectorSolverModel_goOn 125 rfl) m_VectorSolverModel_176 y_VectorSolverModel_next im_VectorSolverModel_next se_VectorSolverModel_next rfl rfl (s_VectorSolverModel_next h) rfl rfl (Nat.le_of_ble_eq_true rfl) (fun _ hx => by cases hx) (fun v u q => ?_) (fun n u q => q)
    obtain ⟨rfl, h⟩ := xqv_get q
    refine xJ.iconst (v := 0) (o_VectorSolverModel_goOn 126 rfl) (by decide) ?_
    exact xJ.zreturn (o_VectorSolverModel_goOn 127 rfl) rfl (Or.inl rfl) h
set_option maxRecDepth 20000 in
theorem sw_VectorSolverModel_goOn_180 {γ : xG1} {d b0 : Nat} {Q : xO → xS → Prop} {a2 : Int32} {σ : xS} (h : w_VectorSolverModel_goOn_180 Q a2 σ) : xJ (SHP, γ) Y_VectorSolverModel_goOn (d + 4) b0 180 [(0, .ref 50), (2, .int a2)] [] σ Q := by
  refine xJ.aload_n (o_VectorSolverModel_goOn 106 rfl) rfl ?_
  refine xJ.aload_n (o_VectorSolverModel_goOn 107 rfl) rfl ?_
  refine xJ.getfield (o_VectorSolverModel_goOn 108 rfl) f_VectorSolverModel_25 rfl rfl ?_
  refine xJ.aload_n (o_VectorSolverModel_goOn 109 rfl) rfl ?_
  refine xJ.getfield (o_VectorSolverModel_goOn 110 rfl) f_VectorSolverModel_169 rfl rfl ?_
  refine xJ.baload (o_VectorSolverModel_goOn 111 rfl) rfl h.1 ?_
  replace h := h.2
  refine xJ.iconst (v := 2) (o_VectorSolverModel_goOn 112 rfl) (by decide) ?_
  refine xJ.icmp_ne (tgt := 198) (o_VectorSolverModel_goOn 113 rfl) (by decide) (fun z => ?_) (fun z => ?_)
  · replace h := h.1 z
    refine xJ.iconst (v := 0) (o_VectorSolverModel_goOn 116 rfl) (by decide) ?_
    exact xJ.lvs (by exact ⟨rfl, rfl, trivial⟩) (sw_VectorSolverModel_goOn_199 h)
  · replace h := h.2 z
    refine xJ.iconst (v := 1) (o_VectorSolverModel_goOn 114 rfl) (by decide) ?_
    refine xJ.goto (tgt := 199) (o_VectorSolverModel_goOn 115 rfl) (by decide) ?_
    exact xJ.lvs (by exact ⟨rfl, rfl, trivial⟩) (sw_VectorSolverModel_goOn_199 h)
set_option maxRecDepth 20000 in
theorem sw_VectorSolverModel_goOn_43 {γ : xG1} {d b0 : Nat} {Q : xO → xS → Prop} {a1 : Int32} {a2 : Int32} {t1 : Int32} {σ : xS} (h : w_VectorSolverModel_goOn_43 Q a1 a2 t1 σ) : xJ (SHP, γ) Y_VectorSolverModel_goOn (d + 4) b0 43 [(0, .ref 50), (1, .int a1), (2, .int a2)] [.int t1, .ref 50] σ Q := by
  refine xJ.bipush (v := 11) (o_VectorSolverModel_goOn 28 rfl) (by decide) ?_
  refine xJ.aload_n (o_VectorSolverModel_goOn 29 rfl) rfl ?_
  refine xJ.getfield (o_VectorSolverModel_goOn 30 rfl) f_VectorSolverModel_85 rfl rfl ?_
  refine xJ.iload_n (o_VectorSolverModel_goOn 31 rfl) rfl ?_
  refine xJ.iaload (o_VectorSolverModel_goOn 32 rfl) rfl h.1 ?_
  replace h := h.2
  refine xJ.callV (Y' := Y_VectorSolverModel_want) (o_VectorSolverModel_goOn 33 rfl) m_VectorSolverModel_172 y_VectorSolverModel_want im_VectorSolverModel_want se_VectorSolverModel_want rfl rfl (s_VectorSolverModel_want h) rfl rfl (Nat.le_of_ble_eq_true rfl) (fun _ hx => by cases hx) (fun v u q => ?_) (fun n u q => q)
  obtain ⟨r, rfl, h⟩ := xqi_get q
  refine xJ.if_ne (tgt := 59) (o_VectorSolverModel_goOn 34 rfl) (by decide) (fun z => ?_) (fun z => ?_)
  · replace h := h.1 z
    refine xJ.aload_n (o_VectorSolverModel_goOn 37 rfl) rfl ?_
    refine xJ.getfield (o_VectorSolverModel_goOn 38 rfl) f_VectorSolverModel_100 rfl rfl ?_
    refine xJ.aload_n (o_VectorSolverModel_goOn 39 rfl) rfl ?_
    refine xJ.getfield (o_VectorSolverModel_goOn 40 rfl) f_VectorSolverModel_267 rfl rfl ?_
    refine xJ.iload_n (o_VectorSolverModel_goOn 41 rfl) rfl ?_
    refine xJ.iastore (o_VectorSolverModel_goOn 42 rfl) rfl h.1 ?_
    replace h := h.2
    replace h := h _ rfl
    refine xJ.aload_n (o_VectorSolverModel_goOn 43 rfl) rfl ?_
    refine xJ.dup (o_VectorSolverModel_goOn 44 rfl) rfl ?_
    refine xJ.getfield (o_VectorSolverModel_goOn 45 rfl) f_VectorSolverModel_267 rfl rfl ?_
    refine xJ.iconst (v := 1) (o_VectorSolverModel_goOn 46 rfl) (by decide) ?_
    refine xJ.iadd (o_VectorSolverModel_goOn 47 rfl) ?_
    refine xJ.putI (o_VectorSolverModel_goOn 48 rfl) f_VectorSolverModel_267 rfl rfl rfl ?_
    replace h := h _ rfl
    refine xJ.aload_n (o_VectorSolverModel_goOn 49 rfl) rfl ?_
    refine xJ.callV (Y' := Y_VectorSolverModel_next) (o_VectorSolverModel_goOn 50 rfl) m_VectorSolverModel_176 y_VectorSolverModel_next im_VectorSolverModel_next se_VectorSolverModel_next rfl rfl (s_VectorSolverModel_next h) rfl rfl (Nat.le_of_ble_eq_true rfl) (fun _ hx => by cases hx) (fun v u q => ?_) (fun n u q => q)
    obtain ⟨rfl, h⟩ := xqv_get q
    refine xJ.aload_n (o_VectorSolverModel_goOn 51 rfl) rfl ?_
    refine xJ.getfield (o_VectorSolverModel_goOn 52 rfl) f_VectorSolverModel_166 rfl rfl ?_
    refine xJ.if_ne (tgt := 115) (o_VectorSolverModel_goOn 53 rfl) (by decide) (fun z => ?_) (fun z => ?_)
    · replace h := h.1 z
      refine xJ.iconst (v := 0) (o_VectorSolverModel_goOn 69 rfl) (by decide) ?_
      exact xJ.zreturn (o_VectorSolverModel_goOn 70 rfl) rfl (Or.inl rfl) h
    · replace h := h.2 z
      refine xJ.aload_n (o_VectorSolverModel_goOn 54 rfl) rfl ?_
      refine xJ.getfield (o_VectorSolverModel_goOn 55 rfl) f_VectorSolverModel_25 rfl rfl ?_
      refine xJ.aload_n (o_VectorSolverModel_goOn 56 rfl) rfl ?_
      refine xJ.getfield (o_VectorSolverModel_goOn 57 rfl) f_VectorSolverModel_169 rfl rfl ?_
      refine xJ.baload (o_VectorSolverModel_goOn 58 rfl) rfl h.1 ?_
      replace h := h.2
      refine xJ.iconst (v := 2) (o_VectorSolverModel_goOn 59 rfl) (by decide) ?_
      refine xJ.icmp_ne (tgt := 115) (o_VectorSolverModel_goOn 60 rfl) (by decide) (fun z => ?_) (fun z => ?_)
      · replace h := h.1 z
        refine xJ.iconst (v := 0) (o_VectorSolverModel_goOn 69 rfl) (by decide) ?_
        exact xJ.zreturn (o_VectorSolverModel_goOn 70 rfl) rfl (Or.inl rfl) h
      · replace h := h.2 z
        refine xJ.aload_n (o_VectorSolverModel_goOn 61 rfl) rfl ?_
        refine xJ.dup (o_VectorSolverModel_goOn 62 rfl) rfl ?_
        refine xJ.getfield (o_VectorSolverModel_goOn 63 rfl) f_VectorSolverModel_264 rfl rfl ?_
        refine xJ.iconst (v := 1) (o_VectorSolverModel_goOn 64 rfl) (by decide) ?_
        refine xJ.isub (o_VectorSolverModel_goOn 65 rfl) ?_
        refine xJ.putI (o_VectorSolverModel_goOn 66 rfl) f_VectorSolverModel_264 rfl rfl rfl ?_
        replace h := h _ rfl
        refine xJ.iconst (v := 1) (o_VectorSolverModel_goOn 67 rfl) (by decide) ?_
        exact xJ.zreturn (o_VectorSolverModel_goOn 68 rfl) rfl (Or.inr rfl) h
  · replace h := h.2 z
    refine xJ.iconst (v := 0) (o_VectorSolverModel_goOn 35 rfl) (by decide) ?_
    exact xJ.zreturn (o_VectorSolverModel_goOn 36 rfl) rfl (Or.inl rfl) h
set_option maxRecDepth 20000 in
theorem s_VectorSolverModel_goOn {γ : xG1} {d : Nat} {Q : xO → xS → Prop} {σ : xS} {a1 : Int32} (h : wp_VectorSolverModel_goOn Q σ a1) : xM (SHP, γ) Y_VectorSolverModel_goOn (d + 4) [.ref 50, .int a1] σ Q := by
  refine xM.of (by decide) (Nat.le_of_ble_eq_true rfl) ?_
  refine xJ.aload_n (o_VectorSolverModel_goOn 0 rfl) rfl ?_
  refine xJ.getfield (o_VectorSolverModel_goOn 1 rfl) f_VectorSolverModel_264 rfl rfl ?_
  refine xJ.iconst (v := 1) (o_VectorSolverModel_goOn 2 rfl) (by decide) ?_
  refine xJ.isub (o_VectorSolverModel_goOn 3 rfl) ?_
  refine xJ.istore_n (o_VectorSolverModel_goOn 4 rfl) (by decide) ?_
  replace h := h _ rfl
  refine xJ.aload_n (o_VectorSolverModel_goOn 5 rfl) rfl ?_
  refine xJ.getfield (o_VectorSolverModel_goOn 6 rfl) f_VectorSolverModel_82 rfl rfl ?_
  refine xJ.iload_n (o_VectorSolverModel_goOn 7 rfl) rfl ?_
  refine xJ.iaload (o_VectorSolverModel_goOn 8 rfl) rfl h.1 ?_
  replace h := h.2
  refine xJ.if_ne (tgt := 117) (o_VectorSolverModel_goOn 9 rfl) (by decide) (fun z => ?_) (fun z => ?_)
  · replace h := h.1 z
    refine xJ.aload_n (o_VectorSolverModel_goOn 71 rfl) rfl ?_
    refine xJ.getfield (o_VectorSolverModel_goOn 72 rfl) f_VectorSolverModel_82 rfl rfl ?_
    refine xJ.iload_n (o_VectorSolverModel_goOn 73 rfl) rfl ?_
    refine xJ.iaload (o_VectorSolverModel_goOn 74 rfl) rfl h.1 ?_
    replace h := h.2
    refine xJ.iconst (v := 1) (o_VectorSolverModel_goOn 75 rfl) (by decide) ?_
    refine xJ.icmp_ne (tgt := 218) (o_VectorSolverModel_goOn 76 rfl) (by decide) (fun z => ?_) (fun z => ?_)
    · replace h := h.1 z
      refine xJ.aload_n (o_VectorSolverModel_goOn 128 rfl) rfl ?_
      refine xJ.iconst (v := 2) (o_VectorSolverModel_goOn 129 rfl) (by decide) ?_
      refine xJ.callV (Y' := Y_VectorSolverModel_need) (o_VectorSolverModel_goOn 130 rfl) m_VectorSolverModel_186 y_VectorSolverModel_need im_VectorSolverModel_need se_VectorSolverModel_need rfl rfl (s_VectorSolverModel_need h) rfl rfl (Nat.le_of_ble_eq_true rfl) (fun _ hx => by cases hx) (fun v u q => ?_) (fun n u q => q)
      obtain ⟨r, rfl, h⟩ := xqi_get q
      refine xJ.istore_n (o_VectorSolverModel_goOn 131 rfl) (by decide) ?_
      obtain ⟨m, h⟩ := h
      exact xJ.lvs (by exact ⟨rfl, rfl, rfl, trivial⟩) (sw_VectorSolverModel_goOn_224 m _ _ _ h)
    · replace h := h.2 z
      refine xJ.aload_n (o_VectorSolverModel_goOn 77 rfl) rfl ?_
      refine xJ.getfield (o_VectorSolverModel_goOn 78 rfl) f_VectorSolverModel_106 rfl rfl ?_
      refine xJ.aload_n (o_VectorSolverModel_goOn 79 rfl) rfl ?_
      refine xJ.getfield (o_VectorSolverModel_goOn 80 rfl) f_VectorSolverModel_270 rfl rfl ?_
      refine xJ.iconst (v := 1) (o_VectorSolverModel_goOn 81 rfl) (by decide) ?_
      refine xJ.isub (o_VectorSolverModel_goOn 82 rfl) ?_
      refine xJ.iload_n (o_VectorSolverModel_goOn 83 rfl) rfl ?_
      refine xJ.iastore (o_VectorSolverModel_goOn 84 rfl) rfl h.1 ?_
      replace h := h.2
      replace h := h _ rfl
      refine xJ.aload_n (o_VectorSolverModel_goOn 85 rfl) rfl ?_
      refine xJ.iconst (v := 2) (o_VectorSolverModel_goOn 86 rfl) (by decide) ?_
      refine xJ.callV (Y' := Y_VectorSolverModel_need) (o_VectorSolverModel_goOn 87 rfl) m_VectorSolverModel_186 y_VectorSolverModel_need im_VectorSolverModel_need se_VectorSolverModel_need rfl rfl (s_VectorSolverModel_need h) rfl rfl (Nat.le_of_ble_eq_true rfl) (fun _ hx => by cases hx) (fun v u q => ?_) (fun n u q => q)
      obtain ⟨r, rfl, h⟩ := xqi_get q
      refine xJ.istore_n (o_VectorSolverModel_goOn 88 rfl) (by decide) ?_
      refine xJ.aload_n (o_VectorSolverModel_goOn 89 rfl) rfl ?_
      refine xJ.callV (Y' := Y_VectorSolverModel_next) (o_VectorSolverModel_goOn 90 rfl) m_VectorSolverModel_176 y_VectorSolverModel_next im_VectorSolverModel_next se_VectorSolverModel_next rfl rfl (s_VectorSolverModel_next h) rfl rfl (Nat.le_of_ble_eq_true rfl) (fun _ hx => by cases hx) (fun v u q => ?_) (fun n u q => q)
      obtain ⟨rfl, h⟩ := xqv_get q
      refine xJ.aload_n (o_VectorSolverModel_goOn 91 rfl) rfl ?_
      refine xJ.getfield (o_VectorSolverModel_goOn 92 rfl) f_VectorSolverModel_166 rfl rfl ?_
      refine xJ.if_ne (tgt := 180) (o_VectorSolverModel_goOn 93 rfl) (by decide) (fun z => ?_) (fun z => ?_)
      · replace h := h.1 z
        exact xJ.lvs (by exact ⟨rfl, rfl, trivial⟩) (sw_VectorSolverModel_goOn_180 h)
      · replace h := h.2 z
        refine xJ.aload_n (o_VectorSolverModel_goOn 94 rfl) rfl ?_
        refine xJ.getfield (o_VectorSolverModel_goOn 95 rfl) f_VectorSolverModel_25 rfl rfl ?_
        refine xJ.aload_n (o_VectorSolverModel_goOn 96 rfl) rfl ?_
        refine xJ.getfield (o_VectorSolverModel_goOn 97 rfl) f_VectorSolverModel_169 rfl rfl ?_
        refine xJ.baload (o_VectorSolverModel_goOn 98 rfl) rfl h.1 ?_
        replace h := h.2
        refine xJ.iconst (v := 1) (o_VectorSolverModel_goOn 99 rfl) (by decide) ?_
        refine xJ.icmp_ne (tgt := 180) (o_VectorSolverModel_goOn 100 rfl) (by decide) (fun z => ?_) (fun z => ?_)
        · replace h := h.1 z
          exact xJ.lvs (by exact ⟨rfl, rfl, trivial⟩) (sw_VectorSolverModel_goOn_180 h)
        · replace h := h.2 z
          refine xJ.aload_n (o_VectorSolverModel_goOn 101 rfl) rfl ?_
          refine xJ.callV (Y' := Y_VectorSolverModel_bind) (o_VectorSolverModel_goOn 102 rfl) m_VectorSolverModel_293 y_VectorSolverModel_bind im_VectorSolverModel_bind se_VectorSolverModel_bind rfl rfl (s_VectorSolverModel_bind h) rfl rfl (Nat.le_of_ble_eq_true rfl) (fun _ hx => by cases hx) (fun v u q => ?_) (fun n u q => q)
          obtain ⟨rfl, h⟩ := xqv_get q
          refine xJ.aload_n (o_VectorSolverModel_goOn 103 rfl) rfl ?_
          refine xJ.callV (Y' := Y_VectorSolverModel_next) (o_VectorSolverModel_goOn 104 rfl) m_VectorSolverModel_176 y_VectorSolverModel_next im_VectorSolverModel_next se_VectorSolverModel_next rfl rfl (s_VectorSolverModel_next h) rfl rfl (Nat.le_of_ble_eq_true rfl) (fun _ hx => by cases hx) (fun v u q => ?_) (fun n u q => q)
          obtain ⟨rfl, h⟩ := xqv_get q
          refine xJ.goto (tgt := 216) (o_VectorSolverModel_goOn 105 rfl) (by decide) ?_
          refine xJ.iconst (v := 0) (o_VectorSolverModel_goOn 126 rfl) (by decide) ?_
          exact xJ.zreturn (o_VectorSolverModel_goOn 127 rfl) rfl (Or.inl rfl) h
  · replace h := h.2 z
    refine xJ.aload_n (o_VectorSolverModel_goOn 10 rfl) rfl ?_
    refine xJ.getfield (o_VectorSolverModel_goOn 11 rfl) f_VectorSolverModel_97 rfl rfl ?_
    refine xJ.iload_n (o_VectorSolverModel_goOn 12 rfl) rfl ?_
    refine xJ.dup2_11 (o_VectorSolverModel_goOn 13 rfl) rfl rfl ?_
    refine xJ.iaload (o_VectorSolverModel_goOn 14 rfl) rfl h.1 ?_
    replace h := h.2
    refine xJ.iconst (v := 1) (o_VectorSolverModel_goOn 15 rfl) (by decide) ?_
    refine xJ.iadd (o_VectorSolverModel_goOn 16 rfl) ?_
    refine xJ.iastore (o_VectorSolverModel_goOn 17 rfl) rfl h.1 ?_
    replace h := h.2
    replace h := h _ rfl
    refine xJ.aload_n (o_VectorSolverModel_goOn 18 rfl) rfl ?_
    refine xJ.aload_n (o_VectorSolverModel_goOn 19 rfl) rfl ?_
    refine xJ.getfield (o_VectorSolverModel_goOn 20 rfl) f_VectorSolverModel_97 rfl rfl ?_
    refine xJ.iload_n (o_VectorSolverModel_goOn 21 rfl) rfl ?_
    refine xJ.iaload (o_VectorSolverModel_goOn 22 rfl) rfl h.1 ?_
    replace h := h.2
    refine xJ.bipush (v := 40) (o_VectorSolverModel_goOn 23 rfl) (by decide) ?_
    refine xJ.icmp_gt (tgt := 42) (o_VectorSolverModel_goOn 24 rfl) (by decide) (fun z => ?_) (fun z => ?_)
    · replace h := h.1 z
      refine xJ.iconst (v := 0) (o_VectorSolverModel_goOn 27 rfl) (by decide) ?_
      exact xJ.lvs (by exact ⟨rfl, rfl, rfl, trivial⟩) (sw_VectorSolverModel_goOn_43 h)
    · replace h := h.2 z
      refine xJ.iconst (v := 1) (o_VectorSolverModel_goOn 25 rfl) (by decide) ?_
      refine xJ.goto (tgt := 43) (o_VectorSolverModel_goOn 26 rfl) (by decide) ?_
      exact xJ.lvs (by exact ⟨rfl, rfl, rfl, trivial⟩) (sw_VectorSolverModel_goOn_43 h)
def wp_VectorSolverModel_isDigit (Q : xO → xS → Prop) (σ : xS) (a0 : Int32) : Prop :=
  ((a0 < 48 → Q (.inl (some (.int 0))) σ) ∧ (¬ a0 < 48 → ((57 < a0 → Q (.inl (some (.int 0))) σ) ∧ (¬ 57 < a0 → Q (.inl (some (.int 1))) σ))))
set_option maxRecDepth 20000 in
theorem s_VectorSolverModel_isDigit {γ : xG1} {d : Nat} {Q : xO → xS → Prop} {σ : xS} {a0 : Int32} (h : wp_VectorSolverModel_isDigit Q σ a0) : xM (SHP, γ) Y_VectorSolverModel_isDigit (d + 0) [.int a0] σ Q := by
  refine xM.of (by decide) (Nat.le_of_ble_eq_true rfl) ?_
  refine xJ.iload_n (o_VectorSolverModel_isDigit 0 rfl) rfl ?_
  refine xJ.bipush (v := 48) (o_VectorSolverModel_isDigit 1 rfl) (by decide) ?_
  refine xJ.icmp_lt (tgt := 16) (o_VectorSolverModel_isDigit 2 rfl) (by decide) (fun z => ?_) (fun z => ?_)
  · replace h := h.1 z
    refine xJ.iconst (v := 0) (o_VectorSolverModel_isDigit 8 rfl) (by decide) ?_
    exact xJ.zreturn (o_VectorSolverModel_isDigit 9 rfl) rfl (Or.inl rfl) h
  · replace h := h.2 z
    refine xJ.iload_n (o_VectorSolverModel_isDigit 3 rfl) rfl ?_
    refine xJ.bipush (v := 57) (o_VectorSolverModel_isDigit 4 rfl) (by decide) ?_
    refine xJ.icmp_gt (tgt := 16) (o_VectorSolverModel_isDigit 5 rfl) (by decide) (fun z => ?_) (fun z => ?_)
    · replace h := h.1 z
      refine xJ.iconst (v := 0) (o_VectorSolverModel_isDigit 8 rfl) (by decide) ?_
      exact xJ.zreturn (o_VectorSolverModel_isDigit 9 rfl) rfl (Or.inl rfl) h
    · replace h := h.2 z
      refine xJ.iconst (v := 1) (o_VectorSolverModel_isDigit 6 rfl) (by decide) ?_
      refine xJ.goto (tgt := 17) (o_VectorSolverModel_isDigit 7 rfl) (by decide) ?_
      exact xJ.zreturn (o_VectorSolverModel_isDigit 9 rfl) rfl (Or.inr rfl) h
def w_VectorSolverModel_digit_33 (Q : xO → xS → Prop) (a0 : Int32) (σ : xS) : Prop :=
  ((a0 < 65 → Q (.inl (some (.int (-1)))) σ) ∧ (¬ a0 < 65 → ((70 < a0 → Q (.inl (some (.int (-1)))) σ) ∧ (¬ 70 < a0 → Q (.inl (some (.int (a0 - 55)))) σ))))
def wp_VectorSolverModel_digit (Q : xO → xS → Prop) (σ : xS) (a0 : Int32) : Prop :=
  wp_VectorSolverModel_isDigit (xqi (fun r2 u1 => ((r2 = 0 → ((a0 < 97 → w_VectorSolverModel_digit_33 Q a0 u1) ∧ (¬ a0 < 97 → ((102 < a0 → w_VectorSolverModel_digit_33 Q a0 u1) ∧ (¬ 102 < a0 → Q (.inl (some (.int (a0 - 87)))) u1))))) ∧ (¬ r2 = 0 → Q (.inl (some (.int (a0 - 48)))) u1))) (fun n u => Q (.inr n) u)) σ a0
set_option maxRecDepth 20000 in
theorem sw_VectorSolverModel_digit_33 {γ : xG1} {d b0 : Nat} {Q : xO → xS → Prop} {a0 : Int32} {σ : xS} (h : w_VectorSolverModel_digit_33 Q a0 σ) : xJ (SHP, γ) Y_VectorSolverModel_digit (d + 1) b0 33 [(0, .int a0)] [] σ Q := by
  refine xJ.iload_n (o_VectorSolverModel_digit 17 rfl) rfl ?_
  refine xJ.bipush (v := 65) (o_VectorSolverModel_digit 18 rfl) (by decide) ?_
  refine xJ.icmp_lt (tgt := 52) (o_VectorSolverModel_digit 19 rfl) (by decide) (fun z => ?_) (fun z => ?_)
  · replace h := h.1 z
    refine xJ.iconst (v := (-1)) (o_VectorSolverModel_digit 27 rfl) (by decide) ?_
    exact xJ.ireturn (o_VectorSolverModel_digit 28 rfl) rfl h
  · replace h := h.2 z
    refine xJ.iload_n (o_VectorSolverModel_digit 20 rfl) rfl ?_
    refine xJ.bipush (v := 70) (o_VectorSolverModel_digit 21 rfl) (by decide) ?_
    refine xJ.icmp_gt (tgt := 52) (o_VectorSolverModel_digit 22 rfl) (by decide) (fun z => ?_) (fun z => ?_)
    · replace h := h.1 z
      refine xJ.iconst (v := (-1)) (o_VectorSolverModel_digit 27 rfl) (by decide) ?_
      exact xJ.ireturn (o_VectorSolverModel_digit 28 rfl) rfl h
    · replace h := h.2 z
      refine xJ.iload_n (o_VectorSolverModel_digit 23 rfl) rfl ?_
      refine xJ.bipush (v := 55) (o_VectorSolverModel_digit 24 rfl) (by decide) ?_
      refine xJ.isub (o_VectorSolverModel_digit 25 rfl) ?_
      refine xJ.goto (tgt := 53) (o_VectorSolverModel_digit 26 rfl) (by decide) ?_
      exact xJ.ireturn (o_VectorSolverModel_digit 28 rfl) rfl h
set_option maxRecDepth 20000 in
theorem s_VectorSolverModel_digit {γ : xG1} {d : Nat} {Q : xO → xS → Prop} {σ : xS} {a0 : Int32} (h : wp_VectorSolverModel_digit Q σ a0) : xM (SHP, γ) Y_VectorSolverModel_digit (d + 1) [.int a0] σ Q := by
  refine xM.of (by decide) (Nat.le_of_ble_eq_true rfl) ?_
  refine xJ.iload_n (o_VectorSolverModel_digit 0 rfl) rfl ?_
  refine xJ.callS (Y' := Y_VectorSolverModel_isDigit) (o_VectorSolverModel_digit 1 rfl) m_VectorSolverModel_136 y_VectorSolverModel_isDigit st_VectorSolverModel_isDigit (s_VectorSolverModel_isDigit h) rfl rfl (Nat.le_of_ble_eq_true rfl) (fun _ hx => by cases hx) (fun v u q => ?_) (fun n u q => q)
  obtain ⟨r, rfl, h⟩ := xqi_get q
  refine xJ.if_eq (tgt := 14) (o_VectorSolverModel_digit 2 rfl) (by decide) (fun z => ?_) (fun z => ?_)
  · replace h := h.1 z
    refine xJ.iload_n (o_VectorSolverModel_digit 7 rfl) rfl ?_
    refine xJ.bipush (v := 97) (o_VectorSolverModel_digit 8 rfl) (by decide) ?_
    refine xJ.icmp_lt (tgt := 33) (o_VectorSolverModel_digit 9 rfl) (by decide) (fun z => ?_) (fun z => ?_)
    · replace h := h.1 z
      exact xJ.lvs (by exact ⟨rfl, trivial⟩) (sw_VectorSolverModel_digit_33 h)
    · replace h := h.2 z
      refine xJ.iload_n (o_VectorSolverModel_digit 10 rfl) rfl ?_
      refine xJ.bipush (v := 102) (o_VectorSolverModel_digit 11 rfl) (by decide) ?_
      refine xJ.icmp_gt (tgt := 33) (o_VectorSolverModel_digit 12 rfl) (by decide) (fun z => ?_) (fun z => ?_)
      · replace h := h.1 z
        exact xJ.lvs (by exact ⟨rfl, trivial⟩) (sw_VectorSolverModel_digit_33 h)
      · replace h := h.2 z
        refine xJ.iload_n (o_VectorSolverModel_digit 13 rfl) rfl ?_
        refine xJ.bipush (v := 87) (o_VectorSolverModel_digit 14 rfl) (by decide) ?_
        refine xJ.isub (o_VectorSolverModel_digit 15 rfl) ?_
        refine xJ.goto (tgt := 53) (o_VectorSolverModel_digit 16 rfl) (by decide) ?_
        exact xJ.ireturn (o_VectorSolverModel_digit 28 rfl) rfl h
  · replace h := h.2 z
    refine xJ.iload_n (o_VectorSolverModel_digit 3 rfl) rfl ?_
    refine xJ.bipush (v := 48) (o_VectorSolverModel_digit 4 rfl) (by decide) ?_
    refine xJ.isub (o_VectorSolverModel_digit 5 rfl) ?_
    refine xJ.goto (tgt := 53) (o_VectorSolverModel_digit 6 rfl) (by decide) ?_
    exact xJ.ireturn (o_VectorSolverModel_digit 28 rfl) rfl h
def w_VectorSolverModel_constant_74 (Q : xO → xS → Prop) : Nat → Int32 → Int32 → Int32 → xS → Prop
  | 0 => fun _ _ _ _ => False
  | n + 1 => fun a1 a3 a4 σ =>
    (vp_in (xi σ 50 10) 65537 ∧ (((xi σ 54 (xi σ 50 10).toNatClampNeg) ≤ a4 → Q (.inl (some (.int a3))) σ) ∧ (¬ (xi σ 54 (xi σ 50 10).toNatClampNeg) ≤ a4 → ((¬ (xi σ 50 4) = 0 → Q (.inl (some (.int a3))) σ) ∧ ((xi σ 50 4) = 0 → (vp_in a3 2000 ∧ (vp_in a4 65536 ∧ wp_VectorSolverModel_digit (xqi (fun r6 u5 => (vp_in a3 2000 ∧ (∀ s7 : xS, s7 = xpl u5 64 a3.toNatClampNeg ((jlshl (xl σ 64 a3.toNatClampNeg) a1) ||| r6.toInt64) → (∀ x8 : Int32, x8 = a4 + 1 → w_VectorSolverModel_constant_74 Q n a1 a3 x8 s7)))) (fun n u => Q (.inr n) u)) σ (xi σ 51 a4.toNatClampNeg))))))))
def w_VectorSolverModel_constant_18 (Q : xO → xS → Prop) (t0 : Int32) (σ : xS) : Prop :=
  (vp_in (xi σ 50 10) 65537 ∧ (vp_in (xi σ 50 10) 65537 ∧ (∀ x1 : Int32, x1 = (t0 * (((xi σ 54 (xi σ 50 10).toNatClampNeg) - (xi σ 53 (xi σ 50 10).toNatClampNeg)) - 2)) → (vp_in (xi σ 50 10) 65537 ∧ wp_VectorSolverModel_make (xqi (fun r3 u2 => (vp_in (xi u2 50 10) 65537 ∧ (∀ x4 : Int32, x4 = ((xi u2 53 (xi u2 50 10).toNatClampNeg) + 2) → ∃ m, w_VectorSolverModel_constant_74 Q m t0 r3 x4 u2))) (fun n u => Q (.inr n) u)) σ 1 0 x1 x1 (xi σ 53 (xi σ 50 10).toNatClampNeg)))))
def wp_VectorSolverModel_constant (Q : xO → xS → Prop) (σ : xS)  : Prop :=
  (vp_in (xi σ 50 10) 65537 ∧ ((¬ (xi σ 52 (xi σ 50 10).toNatClampNeg) = 4 → w_VectorSolverModel_constant_18 Q 4 σ) ∧ ((xi σ 52 (xi σ 50 10).toNatClampNeg) = 4 → w_VectorSolverModel_constant_18 Q 1 σ)))
set_option maxRecDepth 20000 in
theorem sw_VectorSolverModel_constant_74 {γ : xG1} {d b0 : Nat} {Q : xO → xS → Prop} : ∀ (n : Nat) (a1 : Int32) (a3 : Int32) (a4 : Int32) (σ : xS), w_VectorSolverModel_constant_74 Q n a1 a3 a4 σ → xJ (SHP, γ) Y_VectorSolverModel_constant (d + 2) b0 74 [(0, .ref 50), (1, .int a1), (3, .int a3), (4, .int a4)] [] σ Q := by
  intro n
  induction n with
  | zero => intro a1 a3 a4 σ h; exact h.elim
  | succ n ih =>
    intro a1 a3 a4 σ h
    refine xJ.iload (o_VectorSolverModel_constant 47 rfl) rfl ?_
    refine xJ.aload_n (o_VectorSolverModel_constant 48 rfl) rfl ?_
    refine xJ.getfield (o_VectorSolverModel_constant 49 rfl) f_VectorSolverModel_32 rfl rfl ?_
    refine xJ.aload_n (o_VectorSolverModel_constant 50 rfl) rfl ?_
    refine xJ.getfield (o_VectorSolverModel_constant 51 rfl) f_VectorSolverModel_169 rfl rfl ?_
    refine xJ.iaload (o_VectorSolverModel_constant 52 rfl) rfl h.1 ?_
    replace h := h.2
    refine xJ.icmp_ge (tgt := 127) (o_VectorSolverModel_constant 53 rfl) (by decide) (fun z => ?_) (fun z => ?_)
    · replace h := h.1 z
      refine xJ.iload_n (o_VectorSolverModel_constant 76 rfl) rfl ?_
      exact xJ.ireturn (o_VectorSolverModel_constant 77 rfl) rfl h
    · replace h := h.2 z
      refine xJ.aload_n (o_VectorSolverModel_constant 54 rfl) rfl ?_
      refine xJ.getfield (o_VectorSolverModel_constant 55 rfl) f_VectorSolverModel_166 rfl rfl ?_
      refine xJ.if_ne (tgt := 127) (o_VectorSolverModel_constant 56 rfl) (by decide) (fun z => ?_) (fun z => ?_)
      · replace h := h.1 z
        refine xJ.iload_n (o_VectorSolverModel_constant 76 rfl) rfl ?_
        exact xJ.ireturn (o_VectorSolverModel_constant 77 rfl) rfl h
      · replace h := h.2 z
        refine xJ.aload_n (o_VectorSolverModel_constant 57 rfl) rfl ?_
        refine xJ.getfield (o_VectorSolverModel_constant 58 rfl) f_VectorSolverModel_62 rfl rfl ?_
        refine xJ.iload_n (o_VectorSolverModel_constant 59 rfl) rfl ?_
        refine xJ.aload_n (o_VectorSolverModel_constant 60 rfl) rfl ?_
        refine xJ.getfield (o_VectorSolverModel_constant 61 rfl) f_VectorSolverModel_62 rfl rfl ?_
        refine xJ.iload_n (o_VectorSolverModel_constant 62 rfl) rfl ?_
        refine xJ.laload (o_VectorSolverModel_constant 63 rfl) rfl h.1 ?_
        replace h := h.2
        refine xJ.iload_n (o_VectorSolverModel_constant 64 rfl) rfl ?_
        refine xJ.lshl (o_VectorSolverModel_constant 65 rfl) rfl ?_
        refine xJ.aload_n (o_VectorSolverModel_constant 66 rfl) rfl ?_
        refine xJ.getfield (o_VectorSolverModel_constant 67 rfl) f_VectorSolverModel_16 rfl rfl ?_
        refine xJ.iload (o_VectorSolverModel_constant 68 rfl) rfl ?_
        refine xJ.baload (o_VectorSolverModel_constant 69 rfl) rfl h.1 ?_
        replace h := h.2
        refine xJ.callS (Y' := Y_VectorSolverModel_digit) (o_VectorSolverModel_constant 70 rfl) m_VectorSolverModel_152 y_VectorSolverModel_digit st_VectorSolverModel_digit (s_VectorSolverModel_digit h) rfl rfl (Nat.le_of_ble_eq_true rfl) (fun _ hx => by cases hx) (fun v u q => ?_) (fun n u q => q)
        obtain ⟨r, rfl, h⟩ := xqi_get q
        refine xJ.i2l (o_VectorSolverModel_constant 71 rfl) rfl ?_
        refine xJ.lor (o_VectorSolverModel_constant 72 rfl) ?_
        refine xJ.lastore (o_VectorSolverModel_constant 73 rfl) rfl h.1 ?_
        replace h := h.2
        replace h := h _ rfl
        refine xJ.iincC (w := 1) (o_VectorSolverModel_constant 74 rfl) rfl (by decide) (by decide) ?_
        replace h := h _ rfl
        refine xJ.goto (tgt := 74) (o_VectorSolverModel_constant 75 rfl) (by decide) ?_
        exact xJ.lvs (by exact ⟨rfl, rfl, rfl, rfl, trivial⟩) (ih _ _ _ _ h)
set_option maxRecDepth 20000 in
theorem sw_VectorSolverModel_constant_18 {γ : xG1} {d b0 : Nat} {Q : xO → xS → Prop} {t0 : Int32} {σ : xS} (h : w_VectorSolverModel_constant_18 Q t0 σ) : xJ (SHP, γ) Y_VectorSolverModel_constant (d + 2) b0 18 [(0, .ref 50)] [.int t0] σ Q := by
  refine xJ.istore_n (o_VectorSolverModel_constant 10 rfl) (by decide) ?_
  refine xJ.iload_n (o_VectorSolverModel_constant 11 rfl) rfl ?_
  refine xJ.aload_n (o_VectorSolverModel_constant 12 rfl) rfl ?_
  refine xJ.getfield (o_VectorSolverModel_constant 13 rfl) f_VectorSolverModel_32 rfl rfl ?_
  refine xJ.aload_n (o_VectorSolverModel_constant 14 rfl) rfl ?_
  refine xJ.getfield (o_VectorSolverModel_constant 15 rfl) f_VectorSolverModel_169 rfl rfl ?_
  refine xJ.iaload (o_VectorSolverModel_constant 16 rfl) rfl h.1 ?_
  replace h := h.2
  refine xJ.aload_n (o_VectorSolverModel_constant 17 rfl) rfl ?_
  refine xJ.getfield (o_VectorSolverModel_constant 18 rfl) f_VectorSolverModel_28 rfl rfl ?_
  refine xJ.aload_n (o_VectorSolverModel_constant 19 rfl) rfl ?_
  refine xJ.getfield (o_VectorSolverModel_constant 20 rfl) f_VectorSolverModel_169 rfl rfl ?_
  refine xJ.iaload (o_VectorSolverModel_constant 21 rfl) rfl h.1 ?_
  replace h := h.2
  refine xJ.isub (o_VectorSolverModel_constant 22 rfl) ?_
  refine xJ.iconst (v := 2) (o_VectorSolverModel_constant 23 rfl) (by decide) ?_
  refine xJ.isub (o_VectorSolverModel_constant 24 rfl) ?_
  refine xJ.imul (o_VectorSolverModel_constant 25 rfl) ?_
  refine xJ.istore_n (o_VectorSolverModel_constant 26 rfl) (by decide) ?_
  replace h := h _ rfl
  refine xJ.aload_n (o_VectorSolverModel_constant 27 rfl) rfl ?_
  refine xJ.iconst (v := 1) (o_VectorSolverModel_constant 28 rfl) (by decide) ?_
  refine xJ.iconst (v := 0) (o_VectorSolverModel_constant 29 rfl) (by decide) ?_
  refine xJ.iload_n (o_VectorSolverModel_constant 30 rfl) rfl ?_
  refine xJ.iload_n (o_VectorSolverModel_constant 31 rfl) rfl ?_
  refine xJ.aload_n (o_VectorSolverModel_constant 32 rfl) rfl ?_
  refine xJ.getfield (o_VectorSolverModel_constant 33 rfl) f_VectorSolverModel_28 rfl rfl ?_
  refine xJ.aload_n (o_VectorSolverModel_constant 34 rfl) rfl ?_
  refine xJ.getfield (o_VectorSolverModel_constant 35 rfl) f_VectorSolverModel_169 rfl rfl ?_
  refine xJ.iaload (o_VectorSolverModel_constant 36 rfl) rfl h.1 ?_
  replace h := h.2
  refine xJ.callV (Y' := Y_VectorSolverModel_make) (o_VectorSolverModel_constant 37 rfl) m_VectorSolverModel_239 y_VectorSolverModel_make im_VectorSolverModel_make se_VectorSolverModel_make rfl rfl (s_VectorSolverModel_make h) rfl rfl (Nat.le_of_ble_eq_true rfl) (fun _ hx => by cases hx) (fun v u q => ?_) (fun n u q => q)
  obtain ⟨r, rfl, h⟩ := xqi_get q
  refine xJ.istore_n (o_VectorSolverModel_constant 38 rfl) (by decide) ?_
  refine xJ.aload_n (o_VectorSolverModel_constant 39 rfl) rfl ?_
  refine xJ.getfield (o_VectorSolverModel_constant 40 rfl) f_VectorSolverModel_28 rfl rfl ?_
  refine xJ.aload_n (o_VectorSolverModel_constant 41 rfl) rfl ?_
  refine xJ.getfield (o_VectorSolverModel_constant 42 rfl) f_VectorSolverModel_169 rfl rfl ?_
  refine xJ.iaload (o_VectorSolverModel_constant 43 rfl) rfl h.1 ?_
  replace h := h.2
  refine xJ.iconst (v := 2) (o_VectorSolverModel_constant 44 rfl) (by decide) ?_
  refine xJ.iadd (o_VectorSolverModel_constant 45 rfl) ?_
  refine xJ.istore (o_VectorSolverModel_constant 46 rfl) (by decide) ?_
  replace h := h _ rfl
  obtain ⟨m, h⟩ := h
  exact xJ.lvs (by exact ⟨rfl, rfl, rfl, rfl, trivial⟩) (sw_VectorSolverModel_constant_74 m _ _ _ _ h)
set_option maxRecDepth 20000 in
theorem s_VectorSolverModel_constant {γ : xG1} {d : Nat} {Q : xO → xS → Prop} {σ : xS}  (h : wp_VectorSolverModel_constant Q σ ) : xM (SHP, γ) Y_VectorSolverModel_constant (d + 2) [.ref 50] σ Q := by
  refine xM.of (by decide) (Nat.le_of_ble_eq_true rfl) ?_
  refine xJ.aload_n (o_VectorSolverModel_constant 0 rfl) rfl ?_
  refine xJ.getfield (o_VectorSolverModel_constant 1 rfl) f_VectorSolverModel_25 rfl rfl ?_
  refine xJ.aload_n (o_VectorSolverModel_constant 2 rfl) rfl ?_
  refine xJ.getfield (o_VectorSolverModel_constant 3 rfl) f_VectorSolverModel_169 rfl rfl ?_
  refine xJ.baload (o_VectorSolverModel_constant 4 rfl) rfl h.1 ?_
  replace h := h.2
  refine xJ.iconst (v := 4) (o_VectorSolverModel_constant 5 rfl) (by decide) ?_
  refine xJ.icmp_ne (tgt := 17) (o_VectorSolverModel_constant 6 rfl) (by decide) (fun z => ?_) (fun z => ?_)
  · replace h := h.1 z
    refine xJ.iconst (v := 4) (o_VectorSolverModel_constant 9 rfl) (by decide) ?_
    exact xJ.lvs (by exact ⟨rfl, trivial⟩) (sw_VectorSolverModel_constant_18 h)
  · replace h := h.2 z
    refine xJ.iconst (v := 1) (o_VectorSolverModel_constant 7 rfl) (by decide) ?_
    refine xJ.goto (tgt := 18) (o_VectorSolverModel_constant 8 rfl) (by decide) ?_
    exact xJ.lvs (by exact ⟨rfl, trivial⟩) (sw_VectorSolverModel_constant_18 h)
def w_VectorSolverModel_needNumber_109 (Q : xO → xS → Prop) (a1 : Int32) (a4 : Int64) (t1 : Int32) (σ : xS) : Prop :=
  (vp_in (xi σ 50 10) 65537 ∧ wp_VectorSolverModel_want (xqi (fun r5 u4 => ((r5 = 0 → Q (.inl (some (.int a1))) u4) ∧ (¬ r5 = 0 → Q (.inl (some (.int a4.toInt32))) u4))) (fun n u => Q (.inr n) u)) σ t1 7 (xi σ 53 (xi σ 50 10).toNatClampNeg))
def w_VectorSolverModel_needNumber_108 (Q : xO → xS → Prop) (a1 : Int32) (a4 : Int64) (σ : xS) : Prop :=
  w_VectorSolverModel_needNumber_109 Q a1 a4 0 σ
def w_VectorSolverModel_needNumber_24 (Q : xO → xS → Prop) : Nat → Int32 → Int64 → Int64 → Int32 → xS → Prop
  | 0 => fun _ _ _ _ _ => False
  | n + 1 => fun a1 a2 a4 a6 σ =>
    (vp_in (xi σ 50 10) 65537 ∧ (((xi σ 54 (xi σ 50 10).toNatClampNeg) ≤ a6 → ((0 < (lg_cmp a4 2147483647) → w_VectorSolverModel_needNumber_108 Q a1 a4 σ) ∧ (¬ 0 < (lg_cmp a4 2147483647) → (((lg_cmp a4 a1.toInt64) < 0 → w_VectorSolverModel_needNumber_108 Q a1 a4 σ) ∧ (¬ (lg_cmp a4 a1.toInt64) < 0 → ((0 < (lg_cmp a4 a2) → w_VectorSolverModel_needNumber_108 Q a1 a4 σ) ∧ (¬ 0 < (lg_cmp a4 a2) → w_VectorSolverModel_needNumber_109 Q a1 a4 1 σ))))))) ∧ (¬ (xi σ 54 (xi σ 50 10).toNatClampNeg) ≤ a6 → (((lg_cmp a4 4000000000) ≤ 0 → (vp_in a6 65536 ∧ (∀ x6 : Int64, x6 = (((10 * a4) + ((xi σ 51 a6.toNatClampNeg).toInt64)) - 48) → (∀ x7 : Int32, x7 = a6 + 1 → w_VectorSolverModel_needNumber_24 Q n a1 a2 x6 x7 σ)))) ∧ (¬ (lg_cmp a4 4000000000) ≤ 0 → (∀ x8 : Int32, x8 = a6 + 1 → w_VectorSolverModel_needNumber_24 Q n a1 a2 a4 x8 σ))))))
def wp_VectorSolverModel_needNumber (Q : xO → xS → Prop) (σ : xS) (a1 : Int32) (a2 : Int64) : Prop :=
  wp_VectorSolverModel_need (xqi (fun r2 u1 => ((¬ r2 = 0 → (vp_in (xi u1 50 10) 65537 ∧ (∀ x3 : Int32, x3 = (xi u1 53 (xi u1 50 10).toNatClampNeg) → ∃ m, w_VectorSolverModel_needNumber_24 Q m a1 a2 0 x3 u1))) ∧ (r2 = 0 → Q (.inl (some (.int a1))) u1))) (fun n u => Q (.inr n) u)) σ 3
set_option maxRecDepth 20000 in
theorem sw_VectorSolverModel_needNumber_109 {γ : xG1} {d b0 : Nat} {Q : xO → xS → Prop} {a1 : Int32} {a4 : Int64} {t1 : Int32} {σ : xS} (h : w_VectorSolverModel_needNumber_109 Q a1 a4 t1 σ) : xJ (SHP, γ) Y_VectorSolverModel_needNumber (d + 3) b0 109 [(0, .ref 50), (1, .int a1), (4, .long a4)] [.int t1, .ref 50] σ Q := by
  refine xJ.bipush (v := 7) (o_VectorSolverModel_needNumber 58 rfl) (by decide) ?_
  refine xJ.aload_n (o_VectorSolverModel_needNumber 59 rfl) rfl ?_
  refine xJ.getfield (o_VectorSolverModel_needNumber 60 rfl) f_VectorSolverModel_28 rfl rfl ?_
  refine xJ.aload_n (o_VectorSolverModel_needNumber 61 rfl) rfl ?_
  refine xJ.getfield (o_VectorSolverModel_needNumber 62 rfl) f_VectorSolverModel_169 rfl rfl ?_
  refine xJ.iaload (o_VectorSolverModel_needNumber 63 rfl) rfl h.1 ?_
  replace h := h.2
  refine xJ.callV (Y' := Y_VectorSolverModel_want) (o_VectorSolverModel_needNumber 64 rfl) m_VectorSolverModel_172 y_VectorSolverModel_want im_VectorSolverModel_want se_VectorSolverModel_want rfl rfl (s_VectorSolverModel_want h) rfl rfl (Nat.le_of_ble_eq_true rfl) (fun _ hx => by cases hx) (fun v u q => ?_) (fun n u q => q)
  obtain ⟨r, rfl, h⟩ := xqi_get q
  refine xJ.if_eq (tgt := 132) (o_VectorSolverModel_needNumber 65 rfl) (by decide) (fun z => ?_) (fun z => ?_)
  · replace h := h.1 z
    refine xJ.iload_n (o_VectorSolverModel_needNumber 69 rfl) rfl ?_
    exact xJ.ireturn (o_VectorSolverModel_needNumber 70 rfl) rfl h
  · replace h := h.2 z
    refine xJ.lload (o_VectorSolverModel_needNumber 66 rfl) rfl ?_
    refine xJ.l2i (o_VectorSolverModel_needNumber 67 rfl) rfl ?_
    refine xJ.goto (tgt := 133) (o_VectorSolverModel_needNumber 68 rfl) (by decide) ?_
    exact xJ.ireturn (o_VectorSolverModel_needNumber 70 rfl) rfl h
set_option maxRecDepth 20000 in
theorem sw_VectorSolverModel_needNumber_108 {γ : xG1} {d b0 : Nat} {Q : xO → xS → Prop} {a1 : Int32} {a4 : Int64} {σ : xS} (h : w_VectorSolverModel_needNumber_108 Q a1 a4 σ) : xJ (SHP, γ) Y_VectorSolverModel_needNumber (d + 3) b0 108 [(0, .ref 50), (1, .int a1), (4, .long a4)] [.ref 50] σ Q := by
  refine xJ.iconst (v := 0) (o_VectorSolverModel_needNumber 57 rfl) (by decide) ?_
  exact xJ.lvs (by exact ⟨rfl, rfl, rfl, trivial⟩) (sw_VectorSolverModel_needNumber_109 h)
set_option maxRecDepth 20000 in
theorem sw_VectorSolverModel_needNumber_24 {γ : xG1} {d b0 : Nat} {Q : xO → xS → Prop} : ∀ (n : Nat) (a1 : Int32) (a2 : Int64) (a4 : Int64) (a6 : Int32) (σ : xS), w_VectorSolverModel_needNumber_24 Q n a1 a2 a4 a6 σ → xJ (SHP, γ) Y_VectorSolverModel_needNumber (d + 3) b0 24 [(0, .ref 50), (1, .int a1), (2, .long a2), (4, .long a4), (6, .int a6)] [] σ Q := by
  intro n
  induction n with
  | zero => intro a1 a2 a4 a6 σ h; exact h.elim
  | succ n ih =>
    intro a1 a2 a4 a6 σ h
    refine xJ.iload (o_VectorSolverModel_needNumber 14 rfl) rfl ?_
    refine xJ.aload_n (o_VectorSolverModel_needNumber 15 rfl) rfl ?_
    refine xJ.getfield (o_VectorSolverModel_needNumber 16 rfl) f_VectorSolverModel_32 rfl rfl ?_
    refine xJ.aload_n (o_VectorSolverModel_needNumber 17 rfl) rfl ?_
    refine xJ.getfield (o_VectorSolverModel_needNumber 18 rfl) f_VectorSolverModel_169 rfl rfl ?_
    refine xJ.iaload (o_VectorSolverModel_needNumber 19 rfl) rfl h.1 ?_
    replace h := h.2
    refine xJ.icmp_ge (tgt := 79) (o_VectorSolverModel_needNumber 20 rfl) (by decide) (fun z => ?_) (fun z => ?_)
    · replace h := h.1 z
      refine xJ.aload_n (o_VectorSolverModel_needNumber 41 rfl) rfl ?_
      refine xJ.lload (o_VectorSolverModel_needNumber 42 rfl) rfl ?_
      refine xJ.ldc2 (v := 2147483647) (o_VectorSolverModel_needNumber 43 rfl) k_VectorSolverModel_195 ?_
      refine xJ.lcmp (o_VectorSolverModel_needNumber 44 rfl) ?_
      refine xJ.if_gt (tgt := 108) (o_VectorSolverModel_needNumber 45 rfl) (by decide) (fun z => ?_) (fun z => ?_)
      · replace h := h.1 z
        exact xJ.lvs (by exact ⟨rfl, rfl, rfl, trivial⟩) (sw_VectorSolverModel_needNumber_108 h)
      · replace h := h.2 z
        refine xJ.lload (o_VectorSolverModel_needNumber 46 rfl) rfl ?_
        refine xJ.iload_n (o_VectorSolverModel_needNumber 47 rfl) rfl ?_
        refine xJ.i2l (o_VectorSolverModel_needNumber 48 rfl) rfl ?_
        refine xJ.lcmp (o_VectorSolverModel_needNumber 49 rfl) ?_
        refine xJ.if_lt (tgt := 108) (o_VectorSolverModel_needNumber 50 rfl) (by decide) (fun z => ?_) (fun z => ?_)
        · replace h := h.1 z
          exact xJ.lvs (by exact ⟨rfl, rfl, rfl, trivial⟩) (sw_VectorSolverModel_needNumber_108 h)
        · replace h := h.2 z
          refine xJ.lload (o_VectorSolverModel_needNumber 51 rfl) rfl ?_
          refine xJ.lload_n (o_VectorSolverModel_needNumber 52 rfl) rfl ?_
          refine xJ.lcmp (o_VectorSolverModel_needNumber 53 rfl) ?_
          refine xJ.if_gt (tgt := 108) (o_VectorSolverModel_needNumber 54 rfl) (by decide) (fun z => ?_) (fun z => ?_)
          · replace h := h.1 z
            exact xJ.lvs (by exact ⟨rfl, rfl, rfl, trivial⟩) (sw_VectorSolverModel_needNumber_108 h)
          · replace h := h.2 z
            refine xJ.iconst (v := 1) (o_VectorSolverModel_needNumber 55 rfl) (by decide) ?_
            refine xJ.goto (tgt := 109) (o_VectorSolverModel_needNumber 56 rfl) (by decide) ?_
            exact xJ.lvs (by exact ⟨rfl, rfl, rfl, trivial⟩) (sw_VectorSolverModel_needNumber_109 h)
    · replace h := h.2 z
      refine xJ.lload (o_VectorSolverModel_needNumber 21 rfl) rfl ?_
      refine xJ.ldc2 (v := 4000000000) (o_VectorSolverModel_needNumber 22 rfl) k_VectorSolverModel_189 ?_
      refine xJ.lcmp (o_VectorSolverModel_needNumber 23 rfl) ?_
      refine xJ.if_le (tgt := 52) (o_VectorSolverModel_needNumber 24 rfl) (by decide) (fun z => ?_) (fun z => ?_)
      · replace h := h.1 z
        refine xJ.ldc2 (v := 10) (o_VectorSolverModel_needNumber 27 rfl) k_VectorSolverModel_191 ?_
        refine xJ.lload (o_VectorSolverModel_needNumber 28 rfl) rfl ?_
        refine xJ.lmul (o_VectorSolverModel_needNumber 29 rfl) ?_
        refine xJ.aload_n (o_VectorSolverModel_needNumber 30 rfl) rfl ?_
        refine xJ.getfield (o_VectorSolverModel_needNumber 31 rfl) f_VectorSolverModel_16 rfl rfl ?_
        refine xJ.iload (o_VectorSolverModel_needNumber 32 rfl) rfl ?_
        refine xJ.baload (o_VectorSolverModel_needNumber 33 rfl) rfl h.1 ?_
        replace h := h.2
        refine xJ.i2l (o_VectorSolverModel_needNumber 34 rfl) rfl ?_
        refine xJ.ladd (o_VectorSolverModel_needNumber 35 rfl) ?_
        refine xJ.ldc2 (v := 48) (o_VectorSolverModel_needNumber 36 rfl) k_VectorSolverModel_193 ?_
        refine xJ.lsub (o_VectorSolverModel_needNumber 37 rfl) ?_
        refine xJ.lstore (o_VectorSolverModel_needNumber 38 rfl) (by decide) ?_
        replace h := h _ rfl
        refine xJ.iincC (w := 1) (o_VectorSolverModel_needNumber 39 rfl) rfl (by decide) (by decide) ?_
        replace h := h _ rfl
        refine xJ.goto (tgt := 24) (o_VectorSolverModel_needNumber 40 rfl) (by decide) ?_
        exact xJ.lvs (by exact ⟨rfl, rfl, rfl, rfl, rfl, trivial⟩) (ih _ _ _ _ _ h)
      · replace h := h.2 z
        refine xJ.lload (o_VectorSolverModel_needNumber 25 rfl) rfl ?_
        refine xJ.goto (tgt := 71) (o_VectorSolverModel_needNumber 26 rfl) (by decide) ?_
        refine xJ.lstore (o_VectorSolverModel_needNumber 38 rfl) (by decide) ?_
        refine xJ.iincC (w := 1) (o_VectorSolverModel_needNumber 39 rfl) rfl (by decide) (by decide) ?_
        replace h := h _ rfl
        refine xJ.goto (tgt := 24) (o_VectorSolverModel_needNumber 40 rfl) (by decide) ?_
        exact xJ.lvs (by exact ⟨rfl, rfl, rfl, rfl, rfl, trivial⟩) (ih _ _ _ _ _ h)
set_option maxRecDepth 20000 in
theorem s_VectorSolverModel_needNumber {γ : xG1} {d : Nat} {Q : xO → xS → Prop} {σ : xS} {a1 : Int32} {a2 : Int64} (h : wp_VectorSolverModel_needNumber Q σ a1 a2) : xM (SHP, γ) Y_VectorSolverModel_needNumber (d + 3) [.ref 50, .int a1, .long a2] σ Q := by
  refine xM.of (by decide) (Nat.le_of_ble_eq_true rfl) ?_
  refine xJ.aload_n (o_VectorSolverModel_needNumber 0 rfl) rfl ?_
  refine xJ.iconst (v := 3) (o_VectorSolverModel_needNumber 1 rfl) (by decide) ?_
  refine xJ.callV (Y' := Y_VectorSolverModel_need) (o_VectorSolverModel_needNumber 2 rfl) m_VectorSolverModel_186 y_VectorSolverModel_need im_VectorSolverModel_need se_VectorSolverModel_need rfl rfl (s_VectorSolverModel_need h) rfl rfl (Nat.le_of_ble_eq_true rfl) (fun _ hx => by cases hx) (fun v u q => ?_) (fun n u q => q)
  obtain ⟨r, rfl, h⟩ := xqi_get q
  refine xJ.if_ne (tgt := 10) (o_VectorSolverModel_needNumber 3 rfl) (by decide) (fun z => ?_) (fun z => ?_)
  · replace h := h.1 z
    refine xJ.lconst (v := 0) (o_VectorSolverModel_needNumber 6 rfl) (by decide) ?_
    refine xJ.lstore (o_VectorSolverModel_needNumber 7 rfl) (by decide) ?_
    refine xJ.aload_n (o_VectorSolverModel_needNumber 8 rfl) rfl ?_
    refine xJ.getfield (o_VectorSolverModel_needNumber 9 rfl) f_VectorSolverModel_28 rfl rfl ?_
    refine xJ.aload_n (o_VectorSolverModel_needNumber 10 rfl) rfl ?_
    refine xJ.getfield (o_VectorSolverModel_needNumber 11 rfl) f_VectorSolverModel_169 rfl rfl ?_
    refine xJ.iaload (o_VectorSolverModel_needNumber 12 rfl) rfl h.1 ?_
    replace h := h.2
    refine xJ.istore (o_VectorSolverModel_needNumber 13 rfl) (by decide) ?_
    replace h := h _ rfl
    obtain ⟨m, h⟩ := h
    exact xJ.lvs (by exact ⟨rfl, rfl, rfl, rfl, rfl, trivial⟩) (sw_VectorSolverModel_needNumber_24 m _ _ _ _ _ h)
  · replace h := h.2 z
    refine xJ.iload_n (o_VectorSolverModel_needNumber 4 rfl) rfl ?_
    exact xJ.ireturn (o_VectorSolverModel_needNumber 5 rfl) rfl h
def w_VectorSolverModel_needWord_23 (Q : xO → xS → Prop) (t1 : Int32) (σ : xS) : Prop :=
  wp_VectorSolverModel_must (xqi (fun r4 u3 => ((r4 = 0 ∨ r4 = 1) ∧ Q (.inl (some (.int r4))) u3)) (fun n u => Q (.inr n) u)) σ t1
def wp_VectorSolverModel_needWord (Q : xO → xS → Prop) (σ : xS) (a1 : Int32) : Prop :=
  wp_VectorSolverModel_next (xqv (fun u1 => (vp_in (xi u1 50 10) 65537 ∧ ((¬ (xi u1 55 (xi u1 50 10).toNatClampNeg) = a1 → w_VectorSolverModel_needWord_23 Q 0 u1) ∧ ((xi u1 55 (xi u1 50 10).toNatClampNeg) = a1 → w_VectorSolverModel_needWord_23 Q 1 u1)))) (fun n u => Q (.inr n) u)) σ 
set_option maxRecDepth 20000 in
theorem sw_VectorSolverModel_needWord_23 {γ : xG1} {d b0 : Nat} {Q : xO → xS → Prop} {t1 : Int32} {σ : xS} (h : w_VectorSolverModel_needWord_23 Q t1 σ) : xJ (SHP, γ) Y_VectorSolverModel_needWord (d + 2) b0 23 [] [.int t1, .ref 50] σ Q := by
  refine xJ.callV (Y' := Y_VectorSolverModel_must) (o_VectorSolverModel_needWord 13 rfl) m_VectorSolverModel_179 y_VectorSolverModel_must im_VectorSolverModel_must se_VectorSolverModel_must rfl rfl (s_VectorSolverModel_must h) rfl rfl (Nat.le_of_ble_eq_true rfl) (fun _ hx => by cases hx) (fun v u q => ?_) (fun n u q => q)
  obtain ⟨r, rfl, h⟩ := xqi_get q
  exact xJ.zreturn (o_VectorSolverModel_needWord 14 rfl) rfl h.1 h.2
set_option maxRecDepth 20000 in
theorem s_VectorSolverModel_needWord {γ : xG1} {d : Nat} {Q : xO → xS → Prop} {σ : xS} {a1 : Int32} (h : wp_VectorSolverModel_needWord Q σ a1) : xM (SHP, γ) Y_VectorSolverModel_needWord (d + 2) [.ref 50, .int a1] σ Q := by
  refine xM.of (by decide) (Nat.le_of_ble_eq_true rfl) ?_
  refine xJ.aload_n (o_VectorSolverModel_needWord 0 rfl) rfl ?_
  refine xJ.callV (Y' := Y_VectorSolverModel_next) (o_VectorSolverModel_needWord 1 rfl) m_VectorSolverModel_176 y_VectorSolverModel_next im_VectorSolverModel_next se_VectorSolverModel_next rfl rfl (s_VectorSolverModel_next h) rfl rfl (Nat.le_of_ble_eq_true rfl) (fun _ hx => by cases hx) (fun v u q => ?_) (fun n u q => q)
  obtain ⟨rfl, h⟩ := xqv_get q
  refine xJ.aload_n (o_VectorSolverModel_needWord 2 rfl) rfl ?_
  refine xJ.aload_n (o_VectorSolverModel_needWord 3 rfl) rfl ?_
  refine xJ.getfield (o_VectorSolverModel_needWord 4 rfl) f_VectorSolverModel_35 rfl rfl ?_
  refine xJ.aload_n (o_VectorSolverModel_needWord 5 rfl) rfl ?_
  refine xJ.getfield (o_VectorSolverModel_needWord 6 rfl) f_VectorSolverModel_169 rfl rfl ?_
  refine xJ.baload (o_VectorSolverModel_needWord 7 rfl) rfl h.1 ?_
  replace h := h.2
  refine xJ.iload_n (o_VectorSolverModel_needWord 8 rfl) rfl ?_
  refine xJ.icmp_ne (tgt := 22) (o_VectorSolverModel_needWord 9 rfl) (by decide) (fun z => ?_) (fun z => ?_)
  · replace h := h.1 z
    refine xJ.iconst (v := 0) (o_VectorSolverModel_needWord 12 rfl) (by decide) ?_
    exact xJ.lvs (by exact trivial) (sw_VectorSolverModel_needWord_23 h)
  · replace h := h.2 z
    refine xJ.iconst (v := 1) (o_VectorSolverModel_needWord 10 rfl) (by decide) ?_
    refine xJ.goto (tgt := 23) (o_VectorSolverModel_needWord 11 rfl) (by decide) ?_
    exact xJ.lvs (by exact trivial) (sw_VectorSolverModel_needWord_23 h)
def w_VectorSolverModel_opening_346 (Q : xO → xS → Prop) (σ : xS) : Prop :=
  (∀ s11 : xS, s11 = xpi σ 50 29 ((xi σ 50 29) + 1) → wp_VectorSolverModel_next (xqv (fun u12 => ((¬ (xi u12 50 4) = 0 → Q (.inl (some (.int 0))) u12) ∧ ((xi u12 50 4) = 0 → (vp_in (xi u12 50 10) 65537 ∧ ((¬ (xi u12 52 (xi u12 50 10).toNatClampNeg) = 2 → Q (.inl (some (.int 0))) u12) ∧ ((xi u12 52 (xi u12 50 10).toNatClampNeg) = 2 → (∀ s14 : xS, s14 = xpi u12 50 29 ((xi u12 50 29) - 1) → Q (.inl (some (.int 1))) s14))))))) (fun n u => Q (.inr n) u)) s11 )
def w_VectorSolverModel_opening_339 (Q : xO → xS → Prop) (t1 : Int32) (t2 : Int32) (σ : xS) : Prop :=
  (vp_in t1 64 ∧ (∀ s25 : xS, s25 = xpi σ 74 t1.toNatClampNeg t2 → wp_VectorSolverModel_need (xqi (fun r27 u26 => w_VectorSolverModel_opening_346 Q  u26) (fun n u => Q (.inr n) u)) s25 2))
def w_VectorSolverModel_opening_259 (Q : xO → xS → Prop) (t1 : Int32) (σ : xS) : Prop :=
  wp_VectorSolverModel_must (xqi (fun r20 u19 => (vp_in (xi u19 50 10) 65537 ∧ (vp_in (xi u19 50 29) 64 ∧ (∀ s21 : xS, s21 = xpi u19 72 (xi u19 50 29).toNatClampNeg (xi u19 55 (xi u19 50 10).toNatClampNeg) → wp_VectorSolverModel_needNumber (xqi (fun r23 u22 => (vp_in (xi s21 50 29) 64 ∧ (∀ s24 : xS, s24 = xpi u22 73 (xi s21 50 29).toNatClampNeg r23 → (vp_in (xi s24 50 29) 64 ∧ ((¬ (xi s24 72 (xi s24 50 29).toNatClampNeg) = 36 → w_VectorSolverModel_opening_339 Q (xi s24 50 29) 0 s24) ∧ ((xi s24 72 (xi s24 50 29).toNatClampNeg) = 36 → (vp_in (xi s24 50 29) 64 ∧ wp_VectorSolverModel_needNumber (xqi (fun r29 u28 => w_VectorSolverModel_opening_339 Q (xi s24 50 29) r29 u28) (fun n u => Q (.inr n) u)) s24 0 ((xi s24 73 (xi s24 50 29).toNatClampNeg).toInt64)))))))) (fun n u => Q (.inr n) u)) s21 0 2147483647)))) (fun n u => Q (.inr n) u)) σ t1
def w_VectorSolverModel_opening_258 (Q : xO → xS → Prop) (σ : xS) : Prop :=
  w_VectorSolverModel_opening_259 Q 0 σ
def w_VectorSolverModel_opening_206 (Q : xO → xS → Prop) (t1 : Int32) (σ : xS) : Prop :=
  wp_VectorSolverModel_must (xqi (fun r10 u9 => ((r10 = 0 → w_VectorSolverModel_opening_346 Q  u9) ∧ (¬ r10 = 0 → wp_VectorSolverModel_needWord (xqi (fun r16 u15 => ((r16 = 0 → w_VectorSolverModel_opening_346 Q  u15) ∧ (¬ r16 = 0 → wp_VectorSolverModel_next (xqv (fun u17 => (vp_in (xi u17 50 10) 65537 ∧ (((xi u17 55 (xi u17 50 10).toNatClampNeg) < 36 → w_VectorSolverModel_opening_258 Q  u17) ∧ (¬ (xi u17 55 (xi u17 50 10).toNatClampNeg) < 36 → (vp_in (xi u17 50 10) 65537 ∧ ((39 ≤ (xi u17 55 (xi u17 50 10).toNatClampNeg) → w_VectorSolverModel_opening_258 Q  u17) ∧ (¬ 39 ≤ (xi u17 55 (xi u17 50 10).toNatClampNeg) → w_VectorSolverModel_opening_259 Q 1 u17))))))) (fun n u => Q (.inr n) u)) u15 ))) (fun n u => Q (.inr n) u)) u9 43))) (fun n u => Q (.inr n) u)) σ t1
def w_VectorSolverModel_opening_187 (Q : xO → xS → Prop) (σ : xS) : Prop :=
  (vp_in (xi σ 50 10) 65537 ∧ ((¬ (xi σ 52 (xi σ 50 10).toNatClampNeg) = 1 → w_VectorSolverModel_opening_206 Q 0 σ) ∧ ((xi σ 52 (xi σ 50 10).toNatClampNeg) = 1 → w_VectorSolverModel_opening_206 Q 1 σ)))
def w_VectorSolverModel_opening_98 (Q : xO → xS → Prop) (t0 : Int32) (σ : xS) : Prop :=
  wp_VectorSolverModel_bind (xqv (fun u35 => wp_VectorSolverModel_next (xqv (fun u37 => Q (.inl (some (.int 0))) u37) (fun n u => Q (.inr n) u)) u35 ) (fun n u => Q (.inr n) u)) σ 
def w_VectorSolverModel_opening_97 (Q : xO → xS → Prop) (σ : xS) : Prop :=
  w_VectorSolverModel_opening_98 Q 0 σ
def wp_VectorSolverModel_opening (Q : xO → xS → Prop) (σ : xS)  : Prop :=
  (∀ x1 : Int32, x1 = (xi σ 50 10) → wp_VectorSolverModel_next (xqv (fun u2 => (((xi u2 50 4) ≤ 0 → (vp_in x1 65537 ∧ (vp_in (xi u2 50 29) 64 ∧ (∀ s4 : xS, s4 = xpi u2 71 (xi u2 50 29).toNatClampNeg (xi u2 53 x1.toNatClampNeg) → (vp_in (xi s4 50 29) 64 ∧ (∀ s5 : xS, s5 = xpi s4 75 (xi s4 50 29).toNatClampNeg 0 → (vp_in (xi s5 50 10) 65537 ∧ ((¬ (xi s5 55 (xi s5 50 10).toNatClampNeg) = 48 → (vp_in (xi s5 50 29) 64 ∧ (∀ s6 : xS, s6 = xpi s5 70 (xi s5 50 29).toNatClampNeg 0 → (vp_in (xi s6 50 29) 64 ∧ (∀ s7 : xS, s7 = xpi s6 73 (xi s6 50 29).toNatClampNeg 0 → (vp_in (xi s7 50 29) 64 ∧ (∀ s8 : xS, s8 = xpi s7 74 (xi s7 50 29).toNatClampNeg 0 → (vp_in (xi s8 50 10) 65537 ∧ (((xi s8 55 (xi s8 50 10).toNatClampNeg) < 2 → w_VectorSolverModel_opening_187 Q  s8) ∧ (¬ (xi s8 55 (xi s8 50 10).toNatClampNeg) < 2 → (vp_in (xi s8 50 10) 65537 ∧ ((36 ≤ (xi s8 55 (xi s8 50 10).toNatClampNeg) → w_VectorSolverModel_opening_187 Q  s8) ∧ (¬ 36 ≤ (xi s8 55 (xi s8 50 10).toNatClampNeg) → (vp_in (xi s8 50 10) 65537 ∧ (vp_in (xi s8 50 29) 64 ∧ (∀ s30 : xS, s30 = xpi s8 72 (xi s8 50 29).toNatClampNeg (xi s8 55 (xi s8 50 10).toNatClampNeg) → w_VectorSolverModel_opening_346 Q  s30)))))))))))))))) ∧ ((xi s5 55 (xi s5 50 10).toNatClampNeg) = 48 → (vp_in (xi s5 50 29) 64 ∧ (∀ s31 : xS, s31 = xpi s5 70 (xi s5 50 29).toNatClampNeg 1 → (∀ s32 : xS, s32 = xpi s31 50 29 ((xi s31 50 29) + 1) → wp_VectorSolverModel_need (xqi (fun r34 u33 => ((r34 = 0 → w_VectorSolverModel_opening_97 Q  u33) ∧ (¬ r34 = 0 → wp_VectorSolverModel_need (xqi (fun r40 u39 => ((r40 = 0 → w_VectorSolverModel_opening_97 Q  u39) ∧ (¬ r40 = 0 → w_VectorSolverModel_opening_98 Q 1 u39))) (fun n u => Q (.inr n) u)) u33 1))) (fun n u => Q (.inr n) u)) s32 1)))))))))))) ∧ (¬ (xi u2 50 4) ≤ 0 → Q (.inl (some (.int 0))) u2))) (fun n u => Q (.inr n) u)) σ )
set_option maxRecDepth 20000 in
theorem sw_VectorSolverModel_opening_346 {γ : xG1} {d b0 : Nat} {Q : xO → xS → Prop} {σ : xS} (h : w_VectorSolverModel_opening_346 Q  σ) : xJ (SHP, γ) Y_VectorSolverModel_opening (d + 4) b0 346 [(0, .ref 50)] [] σ Q := by
  refine xJ.aload_n (o_VectorSolverModel_opening 190 rfl) rfl ?_
  refine xJ.dup (o_VectorSolverModel_opening 191 rfl) rfl ?_
  refine xJ.getfield (o_VectorSolverModel_opening 192 rfl) f_VectorSolverModel_264 rfl rfl ?_
  refine xJ.iconst (v := 1) (o_VectorSolverModel_opening 193 rfl) (by decide) ?_
  refine xJ.iadd (o_VectorSolverModel_opening 194 rfl) ?_
  refine xJ.putI (o_VectorSolverModel_opening 195 rfl) f_VectorSolverModel_264 rfl rfl rfl ?_
  replace h := h _ rfl
  refine xJ.aload_n (o_VectorSolverModel_opening 196 rfl) rfl ?_
  refine xJ.callV (Y' := Y_VectorSolverModel_next) (o_VectorSolverModel_opening 197 rfl) m_VectorSolverModel_176 y_VectorSolverModel_next im_VectorSolverModel_next se_VectorSolverModel_next rfl rfl (s_VectorSolverModel_next h) rfl rfl (Nat.le_of_ble_eq_true rfl) (fun _ hx => by cases hx) (fun v u q => ?_) (fun n u q => q)
  obtain ⟨rfl, h⟩ := xqv_get q
  refine xJ.aload_n (o_VectorSolverModel_opening 198 rfl) rfl ?_
  refine xJ.getfield (o_VectorSolverModel_opening 199 rfl) f_VectorSolverModel_166 rfl rfl ?_
  refine xJ.if_ne (tgt := 392) (o_VectorSolverModel_opening 200 rfl) (by decide) (fun z => ?_) (fun z => ?_)
  · replace h := h.1 z
    refine xJ.iconst (v := 0) (o_VectorSolverModel_opening 216 rfl) (by decide) ?_
    exact xJ.zreturn (o_VectorSolverModel_opening 217 rfl) rfl (Or.inl rfl) h
  · replace h := h.2 z
    refine xJ.aload_n (o_VectorSolverModel_opening 201 rfl) rfl ?_
    refine xJ.getfield (o_VectorSolverModel_opening 202 rfl) f_VectorSolverModel_25 rfl rfl ?_
    refine xJ.aload_n (o_VectorSolverModel_opening 203 rfl) rfl ?_
    refine xJ.getfield (o_VectorSolverModel_opening 204 rfl) f_VectorSolverModel_169 rfl rfl ?_
    refine xJ.baload (o_VectorSolverModel_opening 205 rfl) rfl h.1 ?_
    replace h := h.2
    refine xJ.iconst (v := 2) (o_VectorSolverModel_opening 206 rfl) (by decide) ?_
    refine xJ.icmp_ne (tgt := 392) (o_VectorSolverModel_opening 207 rfl) (by decide) (fun z => ?_) (fun z => ?_)
    · replace h := h.1 z
      refine xJ.iconst (v := 0) (o_VectorSolverModel_opening 216 rfl) (by decide) ?_
      exact xJ.zreturn (o_VectorSolverModel_opening 217 rfl) rfl (Or.inl rfl) h
    · replace h := h.2 z
      refine xJ.aload_n (o_VectorSolverModel_opening 208 rfl) rfl ?_
      refine xJ.dup (o_VectorSolverModel_opening 209 rfl) rfl ?_
      refine xJ.getfield (o_VectorSolverModel_opening 210 rfl) f_VectorSolverModel_264 rfl rfl ?_
      refine xJ.iconst (v := 1) (o_VectorSolverModel_opening 211 rfl) (by decide) ?_
      refine xJ.isub (o_VectorSolverModel_opening 212 rfl) ?_
      refine xJ.putI (o_VectorSolverModel_opening 213 rfl) f_VectorSolverModel_264 rfl rfl rfl ?_
      replace h := h _ rfl
      refine xJ.iconst (v := 1) (o_VectorSolverModel_opening 214 rfl) (by decide) ?_
      exact xJ.zreturn (o_VectorSolverModel_opening 215 rfl) rfl (Or.inr rfl) h
set_option maxRecDepth 20000 in
theorem sw_VectorSolverModel_opening_339 {γ : xG1} {d b0 : Nat} {Q : xO → xS → Prop} {t1 : Int32} {t2 : Int32} {σ : xS} (h : w_VectorSolverModel_opening_339 Q t1 t2 σ) : xJ (SHP, γ) Y_VectorSolverModel_opening (d + 4) b0 339 [(0, .ref 50)] [.int t2, .int t1, .ref 74] σ Q := by
  refine xJ.iastore (o_VectorSolverModel_opening 185 rfl) rfl h.1 ?_
  replace h := h.2
  replace h := h _ rfl
  refine xJ.aload_n (o_VectorSolverModel_opening 186 rfl) rfl ?_
  refine xJ.iconst (v := 2) (o_VectorSolverModel_opening 187 rfl) (by decide) ?_
  refine xJ.callV (Y' := Y_VectorSolverModel_need) (o_VectorSolverModel_opening 188 rfl) m_VectorSolverModel_186 y_VectorSolverModel_need im_VectorSolverModel_need se_VectorSolverModel_need rfl rfl (s_VectorSolverModel_need h) rfl rfl (Nat.le_of_ble_eq_true rfl) (fun _ hx => by cases hx) (fun v u q => ?_) (fun n u q => q)
  obtain ⟨r, rfl, h⟩ := xqi_get q
  refine xJ.istore_n (o_VectorSolverModel_opening 189 rfl) (by decide) ?_
  exact xJ.lvs (by exact ⟨rfl, trivial⟩) (sw_VectorSolverModel_opening_346 h)
set_option maxRecDepth 20000 in
theorem sw_VectorSolverModel_opening_259 {γ : xG1} {d b0 : Nat} {Q : xO → xS → Prop} {t1 : Int32} {σ : xS} (h : w_VectorSolverModel_opening_259 Q t1 σ) : xJ (SHP, γ) Y_VectorSolverModel_opening (d + 4) b0 259 [(0, .ref 50)] [.int t1, .ref 50] σ Q := by
  refine xJ.callV (Y' := Y_VectorSolverModel_must) (o_VectorSolverModel_opening 142 rfl) m_VectorSolverModel_179 y_VectorSolverModel_must im_VectorSolverModel_must se_VectorSolverModel_must rfl rfl (s_VectorSolverModel_must h) rfl rfl (Nat.le_of_ble_eq_true rfl) (fun _ hx => by cases hx) (fun v u q => ?_) (fun n u q => q)
  obtain ⟨r, rfl, h⟩ := xqi_get q
  refine xJ.istore_n (o_VectorSolverModel_opening 143 rfl) (by decide) ?_
  refine xJ.aload_n (o_VectorSolverModel_opening 144 rfl) rfl ?_
  refine xJ.getfield (o_VectorSolverModel_opening 145 rfl) f_VectorSolverModel_88 rfl rfl ?_
  refine xJ.aload_n (o_VectorSolverModel_opening 146 rfl) rfl ?_
  refine xJ.getfield (o_VectorSolverModel_opening 147 rfl) f_VectorSolverModel_264 rfl rfl ?_
  refine xJ.aload_n (o_VectorSolverModel_opening 148 rfl) rfl ?_
  refine xJ.getfield (o_VectorSolverModel_opening 149 rfl) f_VectorSolverModel_35 rfl rfl ?_
  refine xJ.aload_n (o_VectorSolverModel_opening 150 rfl) rfl ?_
  refine xJ.getfield (o_VectorSolverModel_opening 151 rfl) f_VectorSolverModel_169 rfl rfl ?_
  refine xJ.baload (o_VectorSolverModel_opening 152 rfl) rfl h.1 ?_
  replace h := h.2
  refine xJ.iastore (o_VectorSolverModel_opening 153 rfl) rfl h.1 ?_
  replace h := h.2
  replace h := h _ rfl
  refine xJ.aload_n (o_VectorSolverModel_opening 154 rfl) rfl ?_
  refine xJ.getfield (o_VectorSolverModel_opening 155 rfl) f_VectorSolverModel_91 rfl rfl ?_
  refine xJ.aload_n (o_VectorSolverModel_opening 156 rfl) rfl ?_
  refine xJ.getfield (o_VectorSolverModel_opening 157 rfl) f_VectorSolverModel_264 rfl rfl ?_
  refine xJ.aload_n (o_VectorSolverModel_opening 158 rfl) rfl ?_
  refine xJ.iconst (v := 0) (o_VectorSolverModel_opening 159 rfl) (by decide) ?_
  refine xJ.ldc2 (v := 2147483647) (o_VectorSolverModel_opening 160 rfl) k_VectorSolverModel_195 ?_
  refine xJ.callV (Y' := Y_VectorSolverModel_needNumber) (o_VectorSolverModel_opening 161 rfl) m_VectorSolverModel_214 y_VectorSolverModel_needNumber im_VectorSolverModel_needNumber se_VectorSolverModel_needNumber rfl rfl (s_VectorSolverModel_needNumber h) rfl rfl (Nat.le_of_ble_eq_true rfl) (fun _ hx => by cases hx) (fun v u q => ?_) (fun n u q => q)
  obtain ⟨r, rfl, h⟩ := xqi_get q
  refine xJ.iastore (o_VectorSolverModel_opening 162 rfl) rfl h.1 ?_
  replace h := h.2
  replace h := h _ rfl
  refine xJ.aload_n (o_VectorSolverModel_opening 163 rfl) rfl ?_
  refine xJ.getfield (o_VectorSolverModel_opening 164 rfl) f_VectorSolverModel_94 rfl rfl ?_
  refine xJ.aload_n (o_VectorSolverModel_opening 165 rfl) rfl ?_
  refine xJ.getfield (o_VectorSolverModel_opening 166 rfl) f_VectorSolverModel_264 rfl rfl ?_
  refine xJ.aload_n (o_VectorSolverModel_opening 167 rfl) rfl ?_
  refine xJ.getfield (o_VectorSolverModel_opening 168 rfl) f_VectorSolverModel_88 rfl rfl ?_
  refine xJ.aload_n (o_VectorSolverModel_opening 169 rfl) rfl ?_
  refine xJ.getfield (o_VectorSolverModel_opening 170 rfl) f_VectorSolverModel_264 rfl rfl ?_
  refine xJ.iaload (o_VectorSolverModel_opening 171 rfl) rfl h.1 ?_
  replace h := h.2
  refine xJ.bipush (v := 36) (o_VectorSolverModel_opening 172 rfl) (by decide) ?_
  refine xJ.icmp_ne (tgt := 338) (o_VectorSolverModel_opening 173 rfl) (by decide) (fun z => ?_) (fun z => ?_)
  · replace h := h.1 z
    refine xJ.iconst (v := 0) (o_VectorSolverModel_opening 184 rfl) (by decide) ?_
    exact xJ.lvs (by exact ⟨rfl, trivial⟩) (sw_VectorSolverModel_opening_339 h)
  · replace h := h.2 z
    refine xJ.aload_n (o_VectorSolverModel_opening 174 rfl) rfl ?_
    refine xJ.iconst (v := 0) (o_VectorSolverModel_opening 175 rfl) (by decide) ?_
    refine xJ.aload_n (o_VectorSolverModel_opening 176 rfl) rfl ?_
    refine xJ.getfield (o_VectorSolverModel_opening 177 rfl) f_VectorSolverModel_91 rfl rfl ?_
    refine xJ.aload_n (o_VectorSolverModel_opening 178 rfl) rfl ?_
    refine xJ.getfield (o_VectorSolverModel_opening 179 rfl) f_VectorSolverModel_264 rfl rfl ?_
    refine xJ.iaload (o_VectorSolverModel_opening 180 rfl) rfl h.1 ?_
    replace h := h.2
    refine xJ.i2l (o_VectorSolverModel_opening 181 rfl) rfl ?_
    refine xJ.callV (Y' := Y_VectorSolverModel_needNumber) (o_VectorSolverModel_opening 182 rfl) m_VectorSolverModel_214 y_VectorSolverModel_needNumber im_VectorSolverModel_needNumber se_VectorSolverModel_needNumber rfl rfl (s_VectorSolverModel_needNumber h) rfl rfl (Nat.le_of_ble_eq_true rfl) (fun _ hx => by cases hx) (fun v u q => ?_) (fun n u q => q)
    obtain ⟨r, rfl, h⟩ := xqi_get q
    refine xJ.goto (tgt := 339) (o_VectorSolverModel_opening 183 rfl) (by decide) ?_
    exact xJ.lvs (by exact ⟨rfl, trivial⟩) (sw_VectorSolverModel_opening_339 h)
set_option maxRecDepth 20000 in
theorem sw_VectorSolverModel_opening_258 {γ : xG1} {d b0 : Nat} {Q : xO → xS → Prop} {σ : xS} (h : w_VectorSolverModel_opening_258 Q  σ) : xJ (SHP, γ) Y_VectorSolverModel_opening (d + 4) b0 258 [(0, .ref 50)] [.ref 50] σ Q := by
  refine xJ.iconst (v := 0) (o_VectorSolverModel_opening 141 rfl) (by decide) ?_
  exact xJ.lvs (by exact ⟨rfl, trivial⟩) (sw_VectorSolverModel_opening_259 h)
set_option maxRecDepth 20000 in
theorem sw_VectorSolverModel_opening_206 {γ : xG1} {d b0 : Nat} {Q : xO → xS → Prop} {t1 : Int32} {σ : xS} (h : w_VectorSolverModel_opening_206 Q t1 σ) : xJ (SHP, γ) Y_VectorSolverModel_opening (d + 4) b0 206 [(0, .ref 50)] [.int t1, .ref 50] σ Q := by
  refine xJ.callV (Y' := Y_VectorSolverModel_must) (o_VectorSolverModel_opening 116 rfl) m_VectorSolverModel_179 y_VectorSolverModel_must im_VectorSolverModel_must se_VectorSolverModel_must rfl rfl (s_VectorSolverModel_must h) rfl rfl (Nat.le_of_ble_eq_true rfl) (fun _ hx => by cases hx) (fun v u q => ?_) (fun n u q => q)
  obtain ⟨r, rfl, h⟩ := xqi_get q
  refine xJ.if_eq (tgt := 346) (o_VectorSolverModel_opening 117 rfl) (by decide) (fun z => ?_) (fun z => ?_)
  · replace h := h.1 z
    exact xJ.lvs (by exact ⟨rfl, trivial⟩) (sw_VectorSolverModel_opening_346 h)
  · replace h := h.2 z
    refine xJ.aload_n (o_VectorSolverModel_opening 118 rfl) rfl ?_
    refine xJ.bipush (v := 43) (o_VectorSolverModel_opening 119 rfl) (by decide) ?_
    refine xJ.callV (Y' := Y_VectorSolverModel_needWord) (o_VectorSolverModel_opening 120 rfl) m_VectorSolverModel_209 y_VectorSolverModel_needWord im_VectorSolverModel_needWord se_VectorSolverModel_needWord rfl rfl (s_VectorSolverModel_needWord h) rfl rfl (Nat.le_of_ble_eq_true rfl) (fun _ hx => by cases hx) (fun v u q => ?_) (fun n u q => q)
    obtain ⟨r, rfl, h⟩ := xqi_get q
    refine xJ.if_eq (tgt := 346) (o_VectorSolverModel_opening 121 rfl) (by decide) (fun z => ?_) (fun z => ?_)
    · replace h := h.1 z
      exact xJ.lvs (by exact ⟨rfl, trivial⟩) (sw_VectorSolverModel_opening_346 h)
    · replace h := h.2 z
      refine xJ.aload_n (o_VectorSolverModel_opening 122 rfl) rfl ?_
      refine xJ.callV (Y' := Y_VectorSolverModel_next) (o_VectorSolverModel_opening 123 rfl) m_VectorSolverModel_176 y_VectorSolverModel_next im_VectorSolverModel_next se_VectorSolverModel_next rfl rfl (s_VectorSolverModel_next h) rfl rfl (Nat.le_of_ble_eq_true rfl) (fun _ hx => by cases hx) (fun v u q => ?_) (fun n u q => q)
      obtain ⟨rfl, h⟩ := xqv_get q
      refine xJ.aload_n (o_VectorSolverModel_opening 124 rfl) rfl ?_
      refine xJ.aload_n (o_VectorSolverModel_opening 125 rfl) rfl ?_
      refine xJ.getfield (o_VectorSolverModel_opening 126 rfl) f_VectorSolverModel_35 rfl rfl ?_
      refine xJ.aload_n (o_VectorSolverModel_opening 127 rfl) rfl ?_
      refine xJ.getfield (o_VectorSolverModel_opening 128 rfl) f_VectorSolverModel_169 rfl rfl ?_
      refine xJ.baload (o_VectorSolverModel_opening 129 rfl) rfl h.1 ?_
      replace h := h.2
      refine xJ.bipush (v := 36) (o_VectorSolverModel_opening 130 rfl) (by decide) ?_
      refine xJ.icmp_lt (tgt := 258) (o_VectorSolverModel_opening 131 rfl) (by decide) (fun z => ?_) (fun z => ?_)
      · replace h := h.1 z
        exact xJ.lvs (by exact ⟨rfl, trivial⟩) (sw_VectorSolverModel_opening_258 h)
      · replace h := h.2 z
        refine xJ.aload_n (o_VectorSolverModel_opening 132 rfl) rfl ?_
        refine xJ.getfield (o_VectorSolverModel_opening 133 rfl) f_VectorSolverModel_35 rfl rfl ?_
        refine xJ.aload_n (o_VectorSolverModel_opening 134 rfl) rfl ?_
        refine xJ.getfield (o_VectorSolverModel_opening 135 rfl) f_VectorSolverModel_169 rfl rfl ?_
        refine xJ.baload (o_VectorSolverModel_opening 136 rfl) rfl h.1 ?_
        replace h := h.2
        refine xJ.bipush (v := 39) (o_VectorSolverModel_opening 137 rfl) (by decide) ?_
        refine xJ.icmp_ge (tgt := 258) (o_VectorSolverModel_opening 138 rfl) (by decide) (fun z => ?_) (fun z => ?_)
        · replace h := h.1 z
          exact xJ.lvs (by exact ⟨rfl, trivial⟩) (sw_VectorSolverModel_opening_258 h)
        · replace h := h.2 z
          refine xJ.iconst (v := 1) (o_VectorSolverModel_opening 139 rfl) (by decide) ?_
          refine xJ.goto (tgt := 259) (o_VectorSolverModel_opening 140 rfl) (by decide) ?_
          exact xJ.lvs (by exact ⟨rfl, trivial⟩) (sw_VectorSolverModel_opening_259 h)
set_option maxRecDepth 20000 in
theorem sw_VectorSolverModel_opening_187 {γ : xG1} {d b0 : Nat} {Q : xO → xS → Prop} {σ : xS} (h : w_VectorSolverModel_opening_187 Q  σ) : xJ (SHP, γ) Y_VectorSolverModel_opening (d + 4) b0 187 [(0, .ref 50)] [] σ Q := by
  refine xJ.aload_n (o_VectorSolverModel_opening 105 rfl) rfl ?_
  refine xJ.aload_n (o_VectorSolverModel_opening 106 rfl) rfl ?_
  refine xJ.getfield (o_VectorSolverModel_opening 107 rfl) f_VectorSolverModel_25 rfl rfl ?_
  refine xJ.aload_n (o_VectorSolverModel_opening 108 rfl) rfl ?_
  refine xJ.getfield (o_VectorSolverModel_opening 109 rfl) f_VectorSolverModel_169 rfl rfl ?_
  refine xJ.baload (o_VectorSolverModel_opening 110 rfl) rfl h.1 ?_
  replace h := h.2
  refine xJ.iconst (v := 1) (o_VectorSolverModel_opening 111 rfl) (by decide) ?_
  refine xJ.icmp_ne (tgt := 205) (o_VectorSolverModel_opening 112 rfl) (by decide) (fun z => ?_) (fun z => ?_)
  · replace h := h.1 z
    refine xJ.iconst (v := 0) (o_VectorSolverModel_opening 115 rfl) (by decide) ?_
    exact xJ.lvs (by exact ⟨rfl, trivial⟩) (sw_VectorSolverModel_opening_206 h)
  · replace h := h.2 z
    refine xJ.iconst (v := 1) (o_VectorSolverModel_opening 113 rfl) (by decide) ?_
    refine xJ.goto (tgt := 206) (o_VectorSolverModel_opening 114 rfl) (by decide) ?_
    exact xJ.lvs (by exact ⟨rfl, trivial⟩) (sw_VectorSolverModel_opening_206 h)
set_option maxRecDepth 20000 in
theorem sw_VectorSolverModel_opening_98 {γ : xG1} {d b0 : Nat} {Q : xO → xS → Prop} {t0 : Int32} {σ : xS} (h : w_VectorSolverModel_opening_98 Q t0 σ) : xJ (SHP, γ) Y_VectorSolverModel_opening (d + 4) b0 98 [(0, .ref 50)] [.int t0] σ Q := by
  refine xJ.istore_n (o_VectorSolverModel_opening 55 rfl) (by decide) ?_
  refine xJ.aload_n (o_VectorSolverModel_opening 56 rfl) rfl ?_
  refine xJ.callV (Y' := Y_VectorSolverModel_bind) (o_VectorSolverModel_opening 57 rfl) m_VectorSolverModel_293 y_VectorSolverModel_bind im_VectorSolverModel_bind se_VectorSolverModel_bind rfl rfl (s_VectorSolverModel_bind h) rfl rfl (Nat.le_of_ble_eq_true rfl) (fun _ hx => by cases hx) (fun v u q => ?_) (fun n u q => q)
  obtain ⟨rfl, h⟩ := xqv_get q
  refine xJ.aload_n (o_VectorSolverModel_opening 58 rfl) rfl ?_
  refine xJ.callV (Y' := Y_VectorSolverModel_next) (o_VectorSolverModel_opening 59 rfl) m_VectorSolverModel_176 y_VectorSolverModel_next im_VectorSolverModel_next se_VectorSolverModel_next rfl rfl (s_VectorSolverModel_next h) rfl rfl (Nat.le_of_ble_eq_true rfl) (fun _ hx => by cases hx) (fun v u q => ?_) (fun n u q => q)
  obtain ⟨rfl, h⟩ := xqv_get q
  refine xJ.iconst (v := 0) (o_VectorSolverModel_opening 60 rfl) (by decide) ?_
  exact xJ.zreturn (o_VectorSolverModel_opening 61 rfl) rfl (Or.inl rfl) h
set_option maxRecDepth 20000 in
theorem sw_VectorSolverModel_opening_97 {γ : xG1} {d b0 : Nat} {Q : xO → xS → Prop} {σ : xS} (h : w_VectorSolverModel_opening_97 Q  σ) : xJ (SHP, γ) Y_VectorSolverModel_opening (d + 4) b0 97 [(0, .ref 50)] [] σ Q := by
  refine xJ.iconst (v := 0) (o_VectorSolverModel_opening 54 rfl) (by decide) ?_
  exact xJ.lvs (by exact ⟨rfl, trivial⟩) (sw_VectorSolverModel_opening_98 h)
set_option maxRecDepth 20000 in
theorem s_VectorSolverModel_opening {γ : xG1} {d : Nat} {Q : xO → xS → Prop} {σ : xS}  (h : wp_VectorSolverModel_opening Q σ ) : xM (SHP, γ) Y_VectorSolverModel_opening (d + 4) [.ref 50] σ Q := by
  refine xM.of (by decide) (Nat.le_of_ble_eq_true rfl) ?_
  refine xJ.aload_n (o_VectorSolverModel_opening 0 rfl) rfl ?_
  refine xJ.getfield (o_VectorSolverModel_opening 1 rfl) f_VectorSolverModel_169 rfl rfl ?_
  refine xJ.istore_n (o_VectorSolverModel_opening 2 rfl) (by decide) ?_
  replace h := h _ rfl
  refine xJ.aload_n (o_VectorSolverModel_opening 3 rfl) rfl ?_
  refine xJ.callV (Y' := Y_VectorSolverModel_next) (o_VectorSolverModel_opening 4 rfl) m_VectorSolverModel_176 y_VectorSolverModel_next im_VectorSolverModel_next se_VectorSolverModel_next rfl rfl (s_VectorSolverModel_next h) rfl rfl (Nat.le_of_ble_eq_true rfl) (fun _ hx => by cases hx) (fun v u q => ?_) (fun n u q => q)
  obtain ⟨rfl, h⟩ := xqv_get q
  refine xJ.aload_n (o_VectorSolverModel_opening 5 rfl) rfl ?_
  refine xJ.getfield (o_VectorSolverModel_opening 6 rfl) f_VectorSolverModel_166 rfl rfl ?_
  refine xJ.if_le (tgt := 18) (o_VectorSolverModel_opening 7 rfl) (by decide) (fun z => ?_) (fun z => ?_)
  · replace h := h.1 z
    refine xJ.aload_n (o_VectorSolverModel_opening 10 rfl) rfl ?_
    refine xJ.getfield (o_VectorSolverModel_opening 11 rfl) f_VectorSolverModel_85 rfl rfl ?_
    refine xJ.aload_n (o_VectorSolverModel_opening 12 rfl) rfl ?_
    refine xJ.getfield (o_VectorSolverModel_opening 13 rfl) f_VectorSolverModel_264 rfl rfl ?_
    refine xJ.aload_n (o_VectorSolverModel_opening 14 rfl) rfl ?_
    refine xJ.getfield (o_VectorSolverModel_opening 15 rfl) f_VectorSolverModel_28 rfl rfl ?_
    refine xJ.iload_n (o_VectorSolverModel_opening 16 rfl) rfl ?_
    refine xJ.iaload (o_VectorSolverModel_opening 17 rfl) rfl h.1 ?_
    replace h := h.2
    refine xJ.iastore (o_VectorSolverModel_opening 18 rfl) rfl h.1 ?_
    replace h := h.2
    replace h := h _ rfl
    refine xJ.aload_n (o_VectorSolverModel_opening 19 rfl) rfl ?_
    refine xJ.getfield (o_VectorSolverModel_opening 20 rfl) f_VectorSolverModel_97 rfl rfl ?_
    refine xJ.aload_n (o_VectorSolverModel_opening 21 rfl) rfl ?_
    refine xJ.getfield (o_VectorSolverModel_opening 22 rfl) f_VectorSolverModel_264 rfl rfl ?_
    refine xJ.iconst (v := 0) (o_VectorSolverModel_opening 23 rfl) (by decide) ?_
    refine xJ.iastore (o_VectorSolverModel_opening 24 rfl) rfl h.1 ?_
    replace h := h.2
    replace h := h _ rfl
    refine xJ.aload_n (o_VectorSolverModel_opening 25 rfl) rfl ?_
    refine xJ.getfield (o_VectorSolverModel_opening 26 rfl) f_VectorSolverModel_35 rfl rfl ?_
    refine xJ.aload_n (o_VectorSolverModel_opening 27 rfl) rfl ?_
    refine xJ.getfield (o_VectorSolverModel_opening 28 rfl) f_VectorSolverModel_169 rfl rfl ?_
    refine xJ.baload (o_VectorSolverModel_opening 29 rfl) rfl h.1 ?_
    replace h := h.2
    refine xJ.bipush (v := 48) (o_VectorSolverModel_opening 30 rfl) (by decide) ?_
    refine xJ.icmp_ne (tgt := 109) (o_VectorSolverModel_opening 31 rfl) (by decide) (fun z => ?_) (fun z => ?_)
    · replace h := h.1 z
      refine xJ.aload_n (o_VectorSolverModel_opening 62 rfl) rfl ?_
      refine xJ.getfield (o_VectorSolverModel_opening 63 rfl) f_VectorSolverModel_82 rfl rfl ?_
      refine xJ.aload_n (o_VectorSolverModel_opening 64 rfl) rfl ?_
      refine xJ.getfield (o_VectorSolverModel_opening 65 rfl) f_VectorSolverModel_264 rfl rfl ?_
      refine xJ.iconst (v := 0) (o_VectorSolverModel_opening 66 rfl) (by decide) ?_
      refine xJ.iastore (o_VectorSolverModel_opening 67 rfl) rfl h.1 ?_
      replace h := h.2
      replace h := h _ rfl
      refine xJ.aload_n (o_VectorSolverModel_opening 68 rfl) rfl ?_
      refine xJ.getfield (o_VectorSolverModel_opening 69 rfl) f_VectorSolverModel_91 rfl rfl ?_
      refine xJ.aload_n (o_VectorSolverModel_opening 70 rfl) rfl ?_
      refine xJ.getfield (o_VectorSolverModel_opening 71 rfl) f_VectorSolverModel_264 rfl rfl ?_
      refine xJ.iconst (v := 0) (o_VectorSolverModel_opening 72 rfl) (by decide) ?_
      refine xJ.iastore (o_VectorSolverModel_opening 73 rfl) rfl h.1 ?_
      replace h := h.2
      replace h := h _ rfl
      refine xJ.aload_n (o_VectorSolverModel_opening 74 rfl) rfl ?_
      refine xJ.getfield (o_VectorSolverModel_opening 75 rfl) f_VectorSolverModel_94 rfl rfl ?_
      refine xJ.aload_n (o_VectorSolverModel_opening 76 rfl) rfl ?_
      refine xJ.getfield (o_VectorSolverModel_opening 77 rfl) f_VectorSolverModel_264 rfl rfl ?_
      refine xJ.iconst (v := 0) (o_VectorSolverModel_opening 78 rfl) (by decide) ?_
      refine xJ.iastore (o_VectorSolverModel_opening 79 rfl) rfl h.1 ?_
      replace h := h.2
      replace h := h _ rfl
      refine xJ.aload_n (o_VectorSolverModel_opening 80 rfl) rfl ?_
      refine xJ.getfield (o_VectorSolverModel_opening 81 rfl) f_VectorSolverModel_35 rfl rfl ?_
      refine xJ.aload_n (o_VectorSolverModel_opening 82 rfl) rfl ?_
      refine xJ.getfield (o_VectorSolverModel_opening 83 rfl) f_VectorSolverModel_169 rfl rfl ?_
      refine xJ.baload (o_VectorSolverModel_opening 84 rfl) rfl h.1 ?_
      replace h := h.2
      refine xJ.iconst (v := 2) (o_VectorSolverModel_opening 85 rfl) (by decide) ?_
      refine xJ.icmp_lt (tgt := 187) (o_VectorSolverModel_opening 86 rfl) (by decide) (fun z => ?_) (fun z => ?_)
      · replace h := h.1 z
        exact xJ.lvs (by exact ⟨rfl, trivial⟩) (sw_VectorSolverModel_opening_187 h)
      · replace h := h.2 z
        refine xJ.aload_n (o_VectorSolverModel_opening 87 rfl) rfl ?_
        refine xJ.getfield (o_VectorSolverModel_opening 88 rfl) f_VectorSolverModel_35 rfl rfl ?_
        refine xJ.aload_n (o_VectorSolverModel_opening 89 rfl) rfl ?_
        refine xJ.getfield (o_VectorSolverModel_opening 90 rfl) f_VectorSolverModel_169 rfl rfl ?_
        refine xJ.baload (o_VectorSolverModel_opening 91 rfl) rfl h.1 ?_
        replace h := h.2
        refine xJ.bipush (v := 36) (o_VectorSolverModel_opening 92 rfl) (by decide) ?_
        refine xJ.icmp_ge (tgt := 187) (o_VectorSolverModel_opening 93 rfl) (by decide) (fun z => ?_) (fun z => ?_)
        · replace h := h.1 z
          exact xJ.lvs (by exact ⟨rfl, trivial⟩) (sw_VectorSolverModel_opening_187 h)
        · replace h := h.2 z
          refine xJ.aload_n (o_VectorSolverModel_opening 94 rfl) rfl ?_
          refine xJ.getfield (o_VectorSolverModel_opening 95 rfl) f_VectorSolverModel_88 rfl rfl ?_
          refine xJ.aload_n (o_VectorSolverModel_opening 96 rfl) rfl ?_
          refine xJ.getfield (o_VectorSolverModel_opening 97 rfl) f_VectorSolverModel_264 rfl rfl ?_
          refine xJ.aload_n (o_VectorSolverModel_opening 98 rfl) rfl ?_
          refine xJ.getfield (o_VectorSolverModel_opening 99 rfl) f_VectorSolverModel_35 rfl rfl ?_
          refine xJ.aload_n (o_VectorSolverModel_opening 100 rfl) rfl ?_
          refine xJ.getfield (o_VectorSolverModel_opening 101 rfl) f_VectorSolverModel_169 rfl rfl ?_
          refine xJ.baload (o_VectorSolverModel_opening 102 rfl) rfl h.1 ?_
          replace h := h.2
          refine xJ.iastore (o_VectorSolverModel_opening 103 rfl) rfl h.1 ?_
          replace h := h.2
          replace h := h _ rfl
          refine xJ.goto (tgt := 346) (o_VectorSolverModel_opening 104 rfl) (by decide) ?_
          exact xJ.lvs (by exact ⟨rfl, trivial⟩) (sw_VectorSolverModel_opening_346 h)
    · replace h := h.2 z
      refine xJ.aload_n (o_VectorSolverModel_opening 32 rfl) rfl ?_
      refine xJ.getfield (o_VectorSolverModel_opening 33 rfl) f_VectorSolverModel_82 rfl rfl ?_
      refine xJ.aload_n (o_VectorSolverModel_opening 34 rfl) rfl ?_
      refine xJ.getfield (o_VectorSolverModel_opening 35 rfl) f_VectorSolverModel_264 rfl rfl ?_
      refine xJ.iconst (v := 1) (o_VectorSolverModel_opening 36 rfl) (by decide) ?_
      refine xJ.iastore (o_VectorSolverModel_opening 37 rfl) rfl h.1 ?_
      replace h := h.2
      replace h := h _ rfl
      refine xJ.aload_n (o_VectorSolverModel_opening 38 rfl) rfl ?_
      refine xJ.dup (o_VectorSolverModel_opening 39 rfl) rfl ?_
      refine xJ.getfield (o_VectorSolverModel_opening 40 rfl) f_VectorSolverModel_264 rfl rfl ?_
      refine xJ.iconst (v := 1) (o_VectorSolverModel_opening 41 rfl) (by decide) ?_
      refine xJ.iadd (o_VectorSolverModel_opening 42 rfl) ?_
      refine xJ.putI (o_VectorSolverModel_opening 43 rfl) f_VectorSolverModel_264 rfl rfl rfl ?_
      replace h := h _ rfl
      refine xJ.aload_n (o_VectorSolverModel_opening 44 rfl) rfl ?_
      refine xJ.iconst (v := 1) (o_VectorSolverModel_opening 45 rfl) (by decide) ?_
      refine xJ.callV (Y' := Y_VectorSolverModel_need) (o_VectorSolverModel_opening 46 rfl) m_VectorSolverModel_186 y_VectorSolverModel_need im_VectorSolverModel_need se_VectorSolverModel_need rfl rfl (s_VectorSolverModel_need h) rfl rfl (Nat.le_of_ble_eq_true rfl) (fun _ hx => by cases hx) (fun v u q => ?_) (fun n u q => q)
      obtain ⟨r, rfl, h⟩ := xqi_get q
      refine xJ.if_eq (tgt := 97) (o_VectorSolverModel_opening 47 rfl) (by decide) (fun z => ?_) (fun z => ?_)
      · replace h := h.1 z
        exact xJ.lvs (by exact ⟨rfl, trivial⟩) (sw_VectorSolverModel_opening_97 h)
      · replace h := h.2 z
        refine xJ.aload_n (o_VectorSolverModel_opening 48 rfl) rfl ?_
        refine xJ.iconst (v := 1) (o_VectorSolverModel_opening 49 rfl) (by decide) ?_
        refine xJ.callV (Y' := Y_VectorSolverModel_need) (o_VectorSolverModel_opening 50 rfl) m_VectorSolverModel_186 y_VectorSolverModel_need im_VectorSolverModel_need se_VectorSolverModel_need rfl rfl (s_VectorSolverModel_need h) rfl rfl (Nat.le_of_ble_eq_true rfl) (fun _ hx => by cases hx) (fun v u q => ?_) (fun n u q => q)
        obtain ⟨r, rfl, h⟩ := xqi_get q
        refine xJ.if_eq (tgt := 97) (o_VectorSolverModel_opening 51 rfl) (by decide) (fun z => ?_) (fun z => ?_)
        · replace h := h.1 z
          exact xJ.lvs (by exact ⟨rfl, trivial⟩) (sw_VectorSolverModel_opening_97 h)
        · replace h := h.2 z
          refine xJ.iconst (v := 1) (o_VectorSolverModel_opening 52 rfl) (by decide) ?_
          refine xJ.goto (tgt := 98) (o_VectorSolverModel_opening 53 rfl) (by decide) ?_
          exact xJ.lvs (by exact ⟨rfl, trivial⟩) (sw_VectorSolverModel_opening_98 h)
  · replace h := h.2 z
    refine xJ.iconst (v := 0) (o_VectorSolverModel_opening 8 rfl) (by decide) ?_
    exact xJ.zreturn (o_VectorSolverModel_opening 9 rfl) rfl (Or.inl rfl) h
def w_VectorSolverModel_findName_122 (Q : xO → xS → Prop) (K22 : Int32 → Int32 → xS → Prop) (a1 : Int32) (a2 : Int32) (a4 : Int32) (σ : xS) : Prop :=
  ((a4 = 0 → (∀ x2 : Int32, x2 = a2 + 1 → K22 a1 x2 σ)) ∧ (¬ a4 = 0 → Q (.inl (some (.int a2))) σ))
def w_VectorSolverModel_findName_69 (Q : xO → xS → Prop) (K22 : Int32 → Int32 → xS → Prop) : Nat → Int32 → Int32 → Int32 → Int32 → Int32 → xS → Prop
  | 0 => fun _ _ _ _ _ _ => False
  | n + 1 => fun a1 a2 a3 a4 a5 σ =>
    ((a1 ≤ a5 → w_VectorSolverModel_findName_122 Q K22 a1 a2 a4 σ) ∧ (¬ a1 ≤ a5 → ((a4 = 0 → w_VectorSolverModel_findName_122 Q K22 a1 a2 a4 σ) ∧ (¬ a4 = 0 → (vp_in (a3 + a5) 65536 ∧ (vp_in (xi σ 50 10) 65537 ∧ (vp_in ((xi σ 53 (xi σ 50 10).toNatClampNeg) + a5) 65536 ∧ ((¬ (xi σ 68 (a3 + a5).toNatClampNeg) = (xi σ 51 ((xi σ 53 (xi σ 50 10).toNatClampNeg) + a5).toNatClampNeg) → (∀ x3 : Int32, x3 = a5 + 1 → w_VectorSolverModel_findName_69 Q K22 n a1 a2 a3 0 x3 σ)) ∧ ((xi σ 68 (a3 + a5).toNatClampNeg) = (xi σ 51 ((xi σ 53 (xi σ 50 10).toNatClampNeg) + a5).toNatClampNeg) → (∀ x4 : Int32, x4 = a5 + 1 → w_VectorSolverModel_findName_69 Q K22 n a1 a2 a3 1 x4 σ))))))))))
def w_VectorSolverModel_findName_46 (Q : xO → xS → Prop) (K22 : Int32 → Int32 → xS → Prop) (a1 : Int32) (a2 : Int32) (t0 : Int32) (σ : xS) : Prop :=
  (vp_in a2 501 ∧ ((¬ ((xi σ 66 a2.toNatClampNeg) - t0) = a1 → ∃ m, w_VectorSolverModel_findName_69 Q K22 m a1 a2 t0 0 0 σ) ∧ (((xi σ 66 a2.toNatClampNeg) - t0) = a1 → ∃ m, w_VectorSolverModel_findName_69 Q K22 m a1 a2 t0 1 0 σ)))
def w_VectorSolverModel_findName_22 (Q : xO → xS → Prop) : Nat → Int32 → Int32 → xS → Prop
  | 0 => fun _ _ _ => False
  | n + 1 => fun a1 a2 σ =>
    (((xi σ 50 23) ≤ a2 → Q (.inl (some (.int (-1)))) σ) ∧ (¬ (xi σ 50 23) ≤ a2 → ((¬ a2 = 0 → (vp_in (a2 - 1) 501 ∧ w_VectorSolverModel_findName_46 Q (w_VectorSolverModel_findName_22 Q n) a1 a2 (xi σ 66 (a2 - 1).toNatClampNeg) σ)) ∧ (a2 = 0 → w_VectorSolverModel_findName_46 Q (w_VectorSolverModel_findName_22 Q n) a1 a2 0 σ))))
def wp_VectorSolverModel_findName (Q : xO → xS → Prop) (σ : xS)  : Prop :=
  (vp_in (xi σ 50 10) 65537 ∧ (vp_in (xi σ 50 10) 65537 ∧ (∀ x1 : Int32, x1 = ((xi σ 54 (xi σ 50 10).toNatClampNeg) - (xi σ 53 (xi σ 50 10).toNatClampNeg)) → ∃ m, w_VectorSolverModel_findName_22 Q m x1 0 σ)))
set_option maxRecDepth 20000 in
theorem sw_VectorSolverModel_findName_122 {γ : xG1} {d b0 : Nat} {Q : xO → xS → Prop} {K22 : Int32 → Int32 → xS → Prop} (hK22 : ∀ a1 a2 σ, K22 a1 a2 σ → xJ (SHP, γ) Y_VectorSolverModel_findName (d + 0) b0 22 [(0, .ref 50), (1, .int a1), (2, .int a2)] [] σ Q) {a1 : Int32} {a2 : Int32} {a4 : Int32} {σ : xS} (h : w_VectorSolverModel_findName_122 Q K22 a1 a2 a4 σ) : xJ (SHP, γ) Y_VectorSolverModel_findName (d + 0) b0 122 [(0, .ref 50), (1, .int a1), (2, .int a2), (4, .int a4)] [] σ Q := by
  refine xJ.iload (o_VectorSolverModel_findName 71 rfl) rfl ?_
  refine xJ.if_eq (tgt := 129) (o_VectorSolverModel_findName 72 rfl) (by decide) (fun z => ?_) (fun z => ?_)
  · replace h := h.1 z
    refine xJ.iincC (w := 1) (o_VectorSolverModel_findName 75 rfl) rfl (by decide) (by decide) ?_
    replace h := h _ rfl
    refine xJ.goto (tgt := 22) (o_VectorSolverModel_findName 76 rfl) (by decide) ?_
    exact xJ.lvs (by exact ⟨rfl, rfl, rfl, trivial⟩) (hK22 _ _ _ h)
  · replace h := h.2 z
    refine xJ.iload_n (o_VectorSolverModel_findName 73 rfl) rfl ?_
    exact xJ.ireturn (o_VectorSolverModel_findName 74 rfl) rfl h
set_option maxRecDepth 20000 in
theorem sw_VectorSolverModel_findName_69 {γ : xG1} {d b0 : Nat} {Q : xO → xS → Prop} {K22 : Int32 → Int32 → xS → Prop} (hK22 : ∀ a1 a2 σ, K22 a1 a2 σ → xJ (SHP, γ) Y_VectorSolverModel_findName (d + 0) b0 22 [(0, .ref 50), (1, .int a1), (2, .int a2)] [] σ Q) : ∀ (n : Nat) (a1 : Int32) (a2 : Int32) (a3 : Int32) (a4 : Int32) (a5 : Int32) (σ : xS), w_VectorSolverModel_findName_69 Q K22 n a1 a2 a3 a4 a5 σ → xJ (SHP, γ) Y_VectorSolverModel_findName (d + 0) b0 69 [(0, .ref 50), (1, .int a1), (2, .int a2), (3, .int a3), (4, .int a4), (5, .int a5)] [] σ Q := by
  intro n
  induction n with
  | zero => intro a1 a2 a3 a4 a5 σ h; exact h.elim
  | succ n ih =>
    intro a1 a2 a3 a4 a5 σ h
    refine xJ.iload (o_VectorSolverModel_findName 43 rfl) rfl ?_
    refine xJ.iload_n (o_VectorSolverModel_findName 44 rfl) rfl ?_
    refine xJ.icmp_ge (tgt := 122) (o_VectorSolverModel_findName 45 rfl) (by decide) (fun z => ?_) (fun z => ?_)
    · replace h := h.1 z
      exact xJ.lvs (by exact ⟨rfl, rfl, rfl, rfl, trivial⟩) (sw_VectorSolverModel_findName_122 hK22 h)
    · replace h := h.2 z
      refine xJ.iload (o_VectorSolverModel_findName 46 rfl) rfl ?_
      refine xJ.if_eq (tgt := 122) (o_VectorSolverModel_findName 47 rfl) (by decide) (fun z => ?_) (fun z => ?_)
      · replace h := h.1 z
        exact xJ.lvs (by exact ⟨rfl, rfl, rfl, rfl, trivial⟩) (sw_VectorSolverModel_findName_122 hK22 h)
      · replace h := h.2 z
        refine xJ.aload_n (o_VectorSolverModel_findName 48 rfl) rfl ?_
        refine xJ.getfield (o_VectorSolverModel_findName 49 rfl) f_VectorSolverModel_76 rfl rfl ?_
        refine xJ.iload_n (o_VectorSolverModel_findName 50 rfl) rfl ?_
        refine xJ.iload (o_VectorSolverModel_findName 51 rfl) rfl ?_
        refine xJ.iadd (o_VectorSolverModel_findName 52 rfl) ?_
        refine xJ.baload (o_VectorSolverModel_findName 53 rfl) rfl h.1 ?_
        replace h := h.2
        refine xJ.aload_n (o_VectorSolverModel_findName 54 rfl) rfl ?_
        refine xJ.getfield (o_VectorSolverModel_findName 55 rfl) f_VectorSolverModel_16 rfl rfl ?_
        refine xJ.aload_n (o_VectorSolverModel_findName 56 rfl) rfl ?_
        refine xJ.getfield (o_VectorSolverModel_findName 57 rfl) f_VectorSolverModel_28 rfl rfl ?_
        refine xJ.aload_n (o_VectorSolverModel_findName 58 rfl) rfl ?_
        refine xJ.getfield (o_VectorSolverModel_findName 59 rfl) f_VectorSolverModel_169 rfl rfl ?_
        refine xJ.iaload (o_VectorSolverModel_findName 60 rfl) rfl h.1 ?_
        replace h := h.2
        refine xJ.iload (o_VectorSolverModel_findName 61 rfl) rfl ?_
        refine xJ.iadd (o_VectorSolverModel_findName 62 rfl) ?_
        refine xJ.baload (o_VectorSolverModel_findName 63 rfl) rfl h.1 ?_
        replace h := h.2
        refine xJ.icmp_ne (tgt := 113) (o_VectorSolverModel_findName 64 rfl) (by decide) (fun z => ?_) (fun z => ?_)
        · replace h := h.1 z
          refine xJ.iconst (v := 0) (o_VectorSolverModel_findName 67 rfl) (by decide) ?_
          refine xJ.istore (o_VectorSolverModel_findName 68 rfl) (by decide) ?_
          refine xJ.iincC (w := 1) (o_VectorSolverModel_findName 69 rfl) rfl (by decide) (by decide) ?_
          replace h := h _ rfl
          refine xJ.goto (tgt := 69) (o_VectorSolverModel_findName 70 rfl) (by decide) ?_
          exact xJ.lvs (by exact ⟨rfl, rfl, rfl, rfl, rfl, rfl, trivial⟩) (ih _ _ _ _ _ _ h)
        · replace h := h.2 z
          refine xJ.iconst (v := 1) (o_VectorSolverModel_findName 65 rfl) (by decide) ?_
          refine xJ.goto (tgt := 114) (o_VectorSolverModel_findName 66 rfl) (by decide) ?_
          refine xJ.istore (o_VectorSolverModel_findName 68 rfl) (by decide) ?_
          refine xJ.iincC (w := 1) (o_VectorSolverModel_findName 69 rfl) rfl (by decide) (by decide) ?_
          replace h := h _ rfl
          refine xJ.goto (tgt := 69) (o_VectorSolverModel_findName 70 rfl) (by decide) ?_
          exact xJ.lvs (by exact ⟨rfl, rfl, rfl, rfl, rfl, rfl, trivial⟩) (ih _ _ _ _ _ _ h)
set_option maxRecDepth 20000 in
theorem sw_VectorSolverModel_findName_46 {γ : xG1} {d b0 : Nat} {Q : xO → xS → Prop} {K22 : Int32 → Int32 → xS → Prop} (hK22 : ∀ a1 a2 σ, K22 a1 a2 σ → xJ (SHP, γ) Y_VectorSolverModel_findName (d + 0) b0 22 [(0, .ref 50), (1, .int a1), (2, .int a2)] [] σ Q) {a1 : Int32} {a2 : Int32} {t0 : Int32} {σ : xS} (h : w_VectorSolverModel_findName_46 Q K22 a1 a2 t0 σ) : xJ (SHP, γ) Y_VectorSolverModel_findName (d + 0) b0 46 [(0, .ref 50), (1, .int a1), (2, .int a2)] [.int t0] σ Q := by
  refine xJ.istore_n (o_VectorSolverModel_findName 28 rfl) (by decide) ?_
  refine xJ.aload_n (o_VectorSolverModel_findName 29 rfl) rfl ?_
  refine xJ.getfield (o_VectorSolverModel_findName 30 rfl) f_VectorSolverModel_70 rfl rfl ?_
  refine xJ.iload_n (o_VectorSolverModel_findName 31 rfl) rfl ?_
  refine xJ.iaload (o_VectorSolverModel_findName 32 rfl) rfl h.1 ?_
  replace h := h.2
  refine xJ.iload_n (o_VectorSolverModel_findName 33 rfl) rfl ?_
  refine xJ.isub (o_VectorSolverModel_findName 34 rfl) ?_
  refine xJ.iload_n (o_VectorSolverModel_findName 35 rfl) rfl ?_
  refine xJ.icmp_ne (tgt := 63) (o_VectorSolverModel_findName 36 rfl) (by decide) (fun z => ?_) (fun z => ?_)
  · replace h := h.1 z
    refine xJ.iconst (v := 0) (o_VectorSolverModel_findName 39 rfl) (by decide) ?_
    refine xJ.istore (o_VectorSolverModel_findName 40 rfl) (by decide) ?_
    refine xJ.iconst (v := 0) (o_VectorSolverModel_findName 41 rfl) (by decide) ?_
    refine xJ.istore (o_VectorSolverModel_findName 42 rfl) (by decide) ?_
    obtain ⟨m, h⟩ := h
    exact xJ.lvs (by exact ⟨rfl, rfl, rfl, rfl, rfl, rfl, trivial⟩) (sw_VectorSolverModel_findName_69 hK22 m _ _ _ _ _ _ h)
  · replace h := h.2 z
    refine xJ.iconst (v := 1) (o_VectorSolverModel_findName 37 rfl) (by decide) ?_
    refine xJ.goto (tgt := 64) (o_VectorSolverModel_findName 38 rfl) (by decide) ?_
    refine xJ.istore (o_VectorSolverModel_findName 40 rfl) (by decide) ?_
    refine xJ.iconst (v := 0) (o_VectorSolverModel_findName 41 rfl) (by decide) ?_
    refine xJ.istore (o_VectorSolverModel_findName 42 rfl) (by decide) ?_
    obtain ⟨m, h⟩ := h
    exact xJ.lvs (by exact ⟨rfl, rfl, rfl, rfl, rfl, rfl, trivial⟩) (sw_VectorSolverModel_findName_69 hK22 m _ _ _ _ _ _ h)
set_option maxRecDepth 20000 in
theorem sw_VectorSolverModel_findName_22 {γ : xG1} {d b0 : Nat} {Q : xO → xS → Prop} : ∀ (n : Nat) (a1 : Int32) (a2 : Int32) (σ : xS), w_VectorSolverModel_findName_22 Q n a1 a2 σ → xJ (SHP, γ) Y_VectorSolverModel_findName (d + 0) b0 22 [(0, .ref 50), (1, .int a1), (2, .int a2)] [] σ Q := by
  intro n
  induction n with
  | zero => intro a1 a2 σ h; exact h.elim
  | succ n ih =>
    intro a1 a2 σ h
    refine xJ.iload_n (o_VectorSolverModel_findName 14 rfl) rfl ?_
    refine xJ.aload_n (o_VectorSolverModel_findName 15 rfl) rfl ?_
    refine xJ.getfield (o_VectorSolverModel_findName 16 rfl) f_VectorSolverModel_183 rfl rfl ?_
    refine xJ.icmp_ge (tgt := 135) (o_VectorSolverModel_findName 17 rfl) (by decide) (fun z => ?_) (fun z => ?_)
    · replace h := h.1 z
      refine xJ.iconst (v := (-1)) (o_VectorSolverModel_findName 77 rfl) (by decide) ?_
      exact xJ.ireturn (o_VectorSolverModel_findName 78 rfl) rfl h
    · replace h := h.2 z
      refine xJ.iload_n (o_VectorSolverModel_findName 18 rfl) rfl ?_
      refine xJ.if_ne (tgt := 38) (o_VectorSolverModel_findName 19 rfl) (by decide) (fun z => ?_) (fun z => ?_)
      · replace h := h.1 z
        refine xJ.aload_n (o_VectorSolverModel_findName 22 rfl) rfl ?_
        refine xJ.getfield (o_VectorSolverModel_findName 23 rfl) f_VectorSolverModel_70 rfl rfl ?_
        refine xJ.iload_n (o_VectorSolverModel_findName 24 rfl) rfl ?_
        refine xJ.iconst (v := 1) (o_VectorSolverModel_findName 25 rfl) (by decide) ?_
        refine xJ.isub (o_VectorSolverModel_findName 26 rfl) ?_
        refine xJ.iaload (o_VectorSolverModel_findName 27 rfl) rfl h.1 ?_
        replace h := h.2
        exact xJ.lvs (by exact ⟨rfl, rfl, rfl, trivial⟩) (sw_VectorSolverModel_findName_46 ih h)
      · replace h := h.2 z
        refine xJ.iconst (v := 0) (o_VectorSolverModel_findName 20 rfl) (by decide) ?_
        refine xJ.goto (tgt := 46) (o_VectorSolverModel_findName 21 rfl) (by decide) ?_
        exact xJ.lvs (by exact ⟨rfl, rfl, rfl, trivial⟩) (sw_VectorSolverModel_findName_46 ih h)
set_option maxRecDepth 20000 in
theorem s_VectorSolverModel_findName {γ : xG1} {d : Nat} {Q : xO → xS → Prop} {σ : xS}  (h : wp_VectorSolverModel_findName Q σ ) : xM (SHP, γ) Y_VectorSolverModel_findName (d + 0) [.ref 50] σ Q := by
  refine xM.of (by decide) (Nat.le_of_ble_eq_true rfl) ?_
  refine xJ.aload_n (o_VectorSolverModel_findName 0 rfl) rfl ?_
  refine xJ.getfield (o_VectorSolverModel_findName 1 rfl) f_VectorSolverModel_32 rfl rfl ?_
  refine xJ.aload_n (o_VectorSolverModel_findName 2 rfl) rfl ?_
  refine xJ.getfield (o_VectorSolverModel_findName 3 rfl) f_VectorSolverModel_169 rfl rfl ?_
  refine xJ.iaload (o_VectorSolverModel_findName 4 rfl) rfl h.1 ?_
  replace h := h.2
  refine xJ.aload_n (o_VectorSolverModel_findName 5 rfl) rfl ?_
  refine xJ.getfield (o_VectorSolverModel_findName 6 rfl) f_VectorSolverModel_28 rfl rfl ?_
  refine xJ.aload_n (o_VectorSolverModel_findName 7 rfl) rfl ?_
  refine xJ.getfield (o_VectorSolverModel_findName 8 rfl) f_VectorSolverModel_169 rfl rfl ?_
  refine xJ.iaload (o_VectorSolverModel_findName 9 rfl) rfl h.1 ?_
  replace h := h.2
  refine xJ.isub (o_VectorSolverModel_findName 10 rfl) ?_
  refine xJ.istore_n (o_VectorSolverModel_findName 11 rfl) (by decide) ?_
  replace h := h _ rfl
  refine xJ.iconst (v := 0) (o_VectorSolverModel_findName 12 rfl) (by decide) ?_
  refine xJ.istore_n (o_VectorSolverModel_findName 13 rfl) (by decide) ?_
  obtain ⟨m, h⟩ := h
  exact xJ.lvs (by exact ⟨rfl, rfl, rfl, trivial⟩) (sw_VectorSolverModel_findName_22 m _ _ _ h)
def w_VectorSolverModel_symbol_84 (Q : xO → xS → Prop) (σ : xS) : Prop :=
  (vp_in (xi σ 50 10) 65537 ∧ wp_VectorSolverModel_make (xqi (fun r3 u2 => ((¬ (xi u2 50 4) = 0 → Q (.inl (some (.int r3))) u2) ∧ ((xi u2 50 4) = 0 → (vp_in (xi u2 50 10) 65537 ∧ ((¬ (xi u2 55 (xi u2 50 10).toNatClampNeg) = 46 → (vp_in r3 2000 ∧ (∀ s4 : xS, s4 = xpl u2 64 r3.toNatClampNeg 0 → Q (.inl (some (.int r3))) s4))) ∧ ((xi u2 55 (xi u2 50 10).toNatClampNeg) = 46 → (vp_in r3 2000 ∧ (∀ s5 : xS, s5 = xpl u2 64 r3.toNatClampNeg 1 → Q (.inl (some (.int r3))) s5)))))))) (fun n u => Q (.inr n) u)) σ 1 0 0 1 (xi σ 53 (xi σ 50 10).toNatClampNeg))
def w_VectorSolverModel_symbol_151 (Q : xO → xS → Prop) (a1 : Int32) (t1 : Int32) (σ : xS) : Prop :=
  (vp_in (xi σ 50 10) 65537 ∧ wp_VectorSolverModel_want (xqi (fun r9 u8 => ((r9 = 0 → Q (.inl (some (.int 0))) u8) ∧ (¬ r9 = 0 → (vp_in a1 500 ∧ Q (.inl (some (.int (xi u8 67 a1.toNatClampNeg)))) u8)))) (fun n u => Q (.inr n) u)) σ t1 5 (xi σ 53 (xi σ 50 10).toNatClampNeg))
def w_VectorSolverModel_symbol_7 (Q : xO → xS → Prop) : Nat → Int32 → xS → Prop
  | 0 => fun _ _ => False
  | n + 1 => fun a1 σ =>
    ((a1 < 0 → (vp_in (xi σ 50 10) 65537 ∧ (((xi σ 55 (xi σ 50 10).toNatClampNeg) = 46 → w_VectorSolverModel_symbol_84 Q  σ) ∧ (¬ (xi σ 55 (xi σ 50 10).toNatClampNeg) = 46 → (vp_in (xi σ 50 10) 65537 ∧ ((¬ (xi σ 55 (xi σ 50 10).toNatClampNeg) = 47 → wp_VectorSolverModel_findName (xqi (fun r7 u6 => ((r7 < 0 → w_VectorSolverModel_symbol_151 Q r7 0 u6) ∧ (¬ r7 < 0 → w_VectorSolverModel_symbol_151 Q r7 1 u6))) (fun n u => Q (.inr n) u)) σ ) ∧ ((xi σ 55 (xi σ 50 10).toNatClampNeg) = 47 → w_VectorSolverModel_symbol_84 Q  σ))))))) ∧ (¬ a1 < 0 → (vp_in a1 16 ∧ (vp_in (xi σ 79 a1.toNatClampNeg) 64 ∧ ((¬ (xi σ 70 (xi σ 79 a1.toNatClampNeg).toNatClampNeg) = 2 → (∀ x10 : Int32, x10 = a1 + (-1) → w_VectorSolverModel_symbol_7 Q n x10 σ)) ∧ ((xi σ 70 (xi σ 79 a1.toNatClampNeg).toNatClampNeg) = 2 → (vp_in a1 16 ∧ wp_VectorSolverModel_areSame (xqi (fun r12 u11 => ((r12 = 0 → (∀ x13 : Int32, x13 = a1 + (-1) → w_VectorSolverModel_symbol_7 Q n x13 u11)) ∧ (¬ r12 = 0 → (vp_in a1 16 ∧ Q (.inl (some (.int (xi u11 78 a1.toNatClampNeg)))) u11)))) (fun n u => Q (.inr n) u)) σ (xi σ 77 a1.toNatClampNeg) (xi σ 50 10))))))))
def wp_VectorSolverModel_symbol (Q : xO → xS → Prop) (σ : xS)  : Prop :=
  (∀ x1 : Int32, x1 = ((xi σ 50 38) - 1) → ∃ m, w_VectorSolverModel_symbol_7 Q m x1 σ)
set_option maxRecDepth 20000 in
theorem sw_VectorSolverModel_symbol_84 {γ : xG1} {d b0 : Nat} {Q : xO → xS → Prop} {σ : xS} (h : w_VectorSolverModel_symbol_84 Q  σ) : xJ (SHP, γ) Y_VectorSolverModel_symbol (d + 2) b0 84 [(0, .ref 50)] [] σ Q := by
  refine xJ.aload_n (o_VectorSolverModel_symbol 46 rfl) rfl ?_
  refine xJ.iconst (v := 1) (o_VectorSolverModel_symbol 47 rfl) (by decide) ?_
  refine xJ.iconst (v := 0) (o_VectorSolverModel_symbol 48 rfl) (by decide) ?_
  refine xJ.iconst (v := 0) (o_VectorSolverModel_symbol 49 rfl) (by decide) ?_
  refine xJ.iconst (v := 1) (o_VectorSolverModel_symbol 50 rfl) (by decide) ?_
  refine xJ.aload_n (o_VectorSolverModel_symbol 51 rfl) rfl ?_
  refine xJ.getfield (o_VectorSolverModel_symbol 52 rfl) f_VectorSolverModel_28 rfl rfl ?_
  refine xJ.aload_n (o_VectorSolverModel_symbol 53 rfl) rfl ?_
  refine xJ.getfield (o_VectorSolverModel_symbol 54 rfl) f_VectorSolverModel_169 rfl rfl ?_
  refine xJ.iaload (o_VectorSolverModel_symbol 55 rfl) rfl h.1 ?_
  replace h := h.2
  refine xJ.callV (Y' := Y_VectorSolverModel_make) (o_VectorSolverModel_symbol 56 rfl) m_VectorSolverModel_239 y_VectorSolverModel_make im_VectorSolverModel_make se_VectorSolverModel_make rfl rfl (s_VectorSolverModel_make h) rfl rfl (Nat.le_of_ble_eq_true rfl) (fun _ hx => by cases hx) (fun v u q => ?_) (fun n u q => q)
  obtain ⟨r, rfl, h⟩ := xqi_get q
  refine xJ.istore_n (o_VectorSolverModel_symbol 57 rfl) (by decide) ?_
  refine xJ.aload_n (o_VectorSolverModel_symbol 58 rfl) rfl ?_
  refine xJ.getfield (o_VectorSolverModel_symbol 59 rfl) f_VectorSolverModel_166 rfl rfl ?_
  refine xJ.if_ne (tgt := 134) (o_VectorSolverModel_symbol 60 rfl) (by decide) (fun z => ?_) (fun z => ?_)
  · replace h := h.1 z
    refine xJ.iload_n (o_VectorSolverModel_symbol 75 rfl) rfl ?_
    exact xJ.ireturn (o_VectorSolverModel_symbol 76 rfl) rfl h
  · replace h := h.2 z
    refine xJ.aload_n (o_VectorSolverModel_symbol 61 rfl) rfl ?_
    refine xJ.getfield (o_VectorSolverModel_symbol 62 rfl) f_VectorSolverModel_62 rfl rfl ?_
    refine xJ.iload_n (o_VectorSolverModel_symbol 63 rfl) rfl ?_
    refine xJ.aload_n (o_VectorSolverModel_symbol 64 rfl) rfl ?_
    refine xJ.getfield (o_VectorSolverModel_symbol 65 rfl) f_VectorSolverModel_35 rfl rfl ?_
    refine xJ.aload_n (o_VectorSolverModel_symbol 66 rfl) rfl ?_
    refine xJ.getfield (o_VectorSolverModel_symbol 67 rfl) f_VectorSolverModel_169 rfl rfl ?_
    refine xJ.baload (o_VectorSolverModel_symbol 68 rfl) rfl h.1 ?_
    replace h := h.2
    refine xJ.bipush (v := 46) (o_VectorSolverModel_symbol 69 rfl) (by decide) ?_
    refine xJ.icmp_ne (tgt := 132) (o_VectorSolverModel_symbol 70 rfl) (by decide) (fun z => ?_) (fun z => ?_)
    · replace h := h.1 z
      refine xJ.lconst (v := 0) (o_VectorSolverModel_symbol 73 rfl) (by decide) ?_
      refine xJ.lastore (o_VectorSolverModel_symbol 74 rfl) rfl h.1 ?_
      replace h := h.2
      replace h := h _ rfl
      refine xJ.iload_n (o_VectorSolverModel_symbol 75 rfl) rfl ?_
      exact xJ.ireturn (o_VectorSolverModel_symbol 76 rfl) rfl h
    · replace h := h.2 z
      refine xJ.lconst (v := 1) (o_VectorSolverModel_symbol 71 rfl) (by decide) ?_
      refine xJ.goto (tgt := 133) (o_VectorSolverModel_symbol 72 rfl) (by decide) ?_
      refine xJ.lastore (o_VectorSolverModel_symbol 74 rfl) rfl h.1 ?_
      replace h := h.2
      replace h := h _ rfl
      refine xJ.iload_n (o_VectorSolverModel_symbol 75 rfl) rfl ?_
      exact xJ.ireturn (o_VectorSolverModel_symbol 76 rfl) rfl h
set_option maxRecDepth 20000 in
theorem sw_VectorSolverModel_symbol_151 {γ : xG1} {d b0 : Nat} {Q : xO → xS → Prop} {a1 : Int32} {t1 : Int32} {σ : xS} (h : w_VectorSolverModel_symbol_151 Q a1 t1 σ) : xJ (SHP, γ) Y_VectorSolverModel_symbol (d + 2) b0 151 [(0, .ref 50), (1, .int a1)] [.int t1, .ref 50] σ Q := by
  refine xJ.iconst (v := 5) (o_VectorSolverModel_symbol 86 rfl) (by decide) ?_
  refine xJ.aload_n (o_VectorSolverModel_symbol 87 rfl) rfl ?_
  refine xJ.getfield (o_VectorSolverModel_symbol 88 rfl) f_VectorSolverModel_28 rfl rfl ?_
  refine xJ.aload_n (o_VectorSolverModel_symbol 89 rfl) rfl ?_
  refine xJ.getfield (o_VectorSolverModel_symbol 90 rfl) f_VectorSolverModel_169 rfl rfl ?_
  refine xJ.iaload (o_VectorSolverModel_symbol 91 rfl) rfl h.1 ?_
  replace h := h.2
  refine xJ.callV (Y' := Y_VectorSolverModel_want) (o_VectorSolverModel_symbol 92 rfl) m_VectorSolverModel_172 y_VectorSolverModel_want im_VectorSolverModel_want se_VectorSolverModel_want rfl rfl (s_VectorSolverModel_want h) rfl rfl (Nat.le_of_ble_eq_true rfl) (fun _ hx => by cases hx) (fun v u q => ?_) (fun n u q => q)
  obtain ⟨r, rfl, h⟩ := xqi_get q
  refine xJ.if_eq (tgt := 176) (o_VectorSolverModel_symbol 93 rfl) (by decide) (fun z => ?_) (fun z => ?_)
  · replace h := h.1 z
    refine xJ.iconst (v := 0) (o_VectorSolverModel_symbol 99 rfl) (by decide) ?_
    exact xJ.ireturn (o_VectorSolverModel_symbol 100 rfl) rfl h
  · replace h := h.2 z
    refine xJ.aload_n (o_VectorSolverModel_symbol 94 rfl) rfl ?_
    refine xJ.getfield (o_VectorSolverModel_symbol 95 rfl) f_VectorSolverModel_73 rfl rfl ?_
    refine xJ.iload_n (o_VectorSolverModel_symbol 96 rfl) rfl ?_
    refine xJ.iaload (o_VectorSolverModel_symbol 97 rfl) rfl h.1 ?_
    replace h := h.2
    refine xJ.goto (tgt := 177) (o_VectorSolverModel_symbol 98 rfl) (by decide) ?_
    exact xJ.ireturn (o_VectorSolverModel_symbol 100 rfl) rfl h
set_option maxRecDepth 20000 in
theorem sw_VectorSolverModel_symbol_7 {γ : xG1} {d b0 : Nat} {Q : xO → xS → Prop} : ∀ (n : Nat) (a1 : Int32) (σ : xS), w_VectorSolverModel_symbol_7 Q n a1 σ → xJ (SHP, γ) Y_VectorSolverModel_symbol (d + 2) b0 7 [(0, .ref 50), (1, .int a1)] [] σ Q := by
  intro n
  induction n with
  | zero => intro a1 σ h; exact h.elim
  | succ n ih =>
    intro a1 σ h
    refine xJ.iload_n (o_VectorSolverModel_symbol 5 rfl) rfl ?_
    refine xJ.if_lt (tgt := 56) (o_VectorSolverModel_symbol 6 rfl) (by decide) (fun z => ?_) (fun z => ?_)
    · replace h := h.1 z
      refine xJ.aload_n (o_VectorSolverModel_symbol 32 rfl) rfl ?_
      refine xJ.getfield (o_VectorSolverModel_symbol 33 rfl) f_VectorSolverModel_35 rfl rfl ?_
      refine xJ.aload_n (o_VectorSolverModel_symbol 34 rfl) rfl ?_
      refine xJ.getfield (o_VectorSolverModel_symbol 35 rfl) f_VectorSolverModel_169 rfl rfl ?_
      refine xJ.baload (o_VectorSolverModel_symbol 36 rfl) rfl h.1 ?_
      replace h := h.2
      refine xJ.bipush (v := 46) (o_VectorSolverModel_symbol 37 rfl) (by decide) ?_
      refine xJ.icmp_eq (tgt := 84) (o_VectorSolverModel_symbol 38 rfl) (by decide) (fun z => ?_) (fun z => ?_)
      · replace h := h.1 z
        exact xJ.lvs (by exact ⟨rfl, trivial⟩) (sw_VectorSolverModel_symbol_84 h)
      · replace h := h.2 z
        refine xJ.aload_n (o_VectorSolverModel_symbol 39 rfl) rfl ?_
        refine xJ.getfield (o_VectorSolverModel_symbol 40 rfl) f_VectorSolverModel_35 rfl rfl ?_
        refine xJ.aload_n (o_VectorSolverModel_symbol 41 rfl) rfl ?_
        refine xJ.getfield (o_VectorSolverModel_symbol 42 rfl) f_VectorSolverModel_169 rfl rfl ?_
        refine xJ.baload (o_VectorSolverModel_symbol 43 rfl) rfl h.1 ?_
        replace h := h.2
        refine xJ.bipush (v := 47) (o_VectorSolverModel_symbol 44 rfl) (by decide) ?_
        refine xJ.icmp_ne (tgt := 136) (o_VectorSolverModel_symbol 45 rfl) (by decide) (fun z => ?_) (fun z => ?_)
        · replace h := h.1 z
          refine xJ.aload_n (o_VectorSolverModel_symbol 77 rfl) rfl ?_
          refine xJ.callV (Y' := Y_VectorSolverModel_findName) (o_VectorSolverModel_symbol 78 rfl) m_VectorSolverModel_197 y_VectorSolverModel_findName im_VectorSolverModel_findName se_VectorSolverModel_findName rfl rfl (s_VectorSolverModel_findName h) rfl rfl (Nat.le_of_ble_eq_true rfl) (fun _ hx => by cases hx) (fun v u q => ?_) (fun n u q => q)
          obtain ⟨r, rfl, h⟩ := xqi_get q
          refine xJ.istore_n (o_VectorSolverModel_symbol 79 rfl) (by decide) ?_
          refine xJ.aload_n (o_VectorSolverModel_symbol 80 rfl) rfl ?_
          refine xJ.iload_n (o_VectorSolverModel_symbol 81 rfl) rfl ?_
          refine xJ.if_lt (tgt := 150) (o_VectorSolverModel_symbol 82 rfl) (by decide) (fun z => ?_) (fun z => ?_)
          · replace h := h.1 z
            refine xJ.iconst (v := 0) (o_VectorSolverModel_symbol 85 rfl) (by decide) ?_
            exact xJ.lvs (by exact ⟨rfl, rfl, trivial⟩) (sw_VectorSolverModel_symbol_151 h)
          · replace h := h.2 z
            refine xJ.iconst (v := 1) (o_VectorSolverModel_symbol 83 rfl) (by decide) ?_
            refine xJ.goto (tgt := 151) (o_VectorSolverModel_symbol 84 rfl) (by decide) ?_
            exact xJ.lvs (by exact ⟨rfl, rfl, trivial⟩) (sw_VectorSolverModel_symbol_151 h)
        · replace h := h.2 z
          exact xJ.lvs (by exact ⟨rfl, trivial⟩) (sw_VectorSolverModel_symbol_84 h)
    · replace h := h.2 z
      refine xJ.aload_n (o_VectorSolverModel_symbol 7 rfl) rfl ?_
      refine xJ.getfield (o_VectorSolverModel_symbol 8 rfl) f_VectorSolverModel_82 rfl rfl ?_
      refine xJ.aload_n (o_VectorSolverModel_symbol 9 rfl) rfl ?_
      refine xJ.getfield (o_VectorSolverModel_symbol 10 rfl) f_VectorSolverModel_109 rfl rfl ?_
      refine xJ.iload_n (o_VectorSolverModel_symbol 11 rfl) rfl ?_
      refine xJ.iaload (o_VectorSolverModel_symbol 12 rfl) rfl h.1 ?_
      replace h := h.2
      refine xJ.iaload (o_VectorSolverModel_symbol 13 rfl) rfl h.1 ?_
      replace h := h.2
      refine xJ.iconst (v := 2) (o_VectorSolverModel_symbol 14 rfl) (by decide) ?_
      refine xJ.icmp_ne (tgt := 50) (o_VectorSolverModel_symbol 15 rfl) (by decide) (fun z => ?_) (fun z => ?_)
      · replace h := h.1 z
        refine xJ.iincC (w := (-1)) (o_VectorSolverModel_symbol 30 rfl) rfl (by decide) (by decide) ?_
        replace h := h _ rfl
        refine xJ.goto (tgt := 7) (o_VectorSolverModel_symbol 31 rfl) (by decide) ?_
        exact xJ.lvs (by exact ⟨rfl, rfl, trivial⟩) (ih _ _ h)
      · replace h := h.2 z
        refine xJ.aload_n (o_VectorSolverModel_symbol 16 rfl) rfl ?_
        refine xJ.aload_n (o_VectorSolverModel_symbol 17 rfl) rfl ?_
        refine xJ.getfield (o_VectorSolverModel_symbol 18 rfl) f_VectorSolverModel_103 rfl rfl ?_
        refine xJ.iload_n (o_VectorSolverModel_symbol 19 rfl) rfl ?_
        refine xJ.iaload (o_VectorSolverModel_symbol 20 rfl) rfl h.1 ?_
        replace h := h.2
        refine xJ.aload_n (o_VectorSolverModel_symbol 21 rfl) rfl ?_
        refine xJ.getfield (o_VectorSolverModel_symbol 22 rfl) f_VectorSolverModel_169 rfl rfl ?_
        refine xJ.callV (Y' := Y_VectorSolverModel_areSame) (o_VectorSolverModel_symbol 23 rfl) m_VectorSolverModel_289 y_VectorSolverModel_areSame im_VectorSolverModel_areSame se_VectorSolverModel_areSame rfl rfl (s_VectorSolverModel_areSame h) rfl rfl (Nat.le_of_ble_eq_true rfl) (fun _ hx => by cases hx) (fun v u q => ?_) (fun n u q => q)
        obtain ⟨r, rfl, h⟩ := xqi_get q
        refine xJ.if_eq (tgt := 50) (o_VectorSolverModel_symbol 24 rfl) (by decide) (fun z => ?_) (fun z => ?_)
        · replace h := h.1 z
          refine xJ.iincC (w := (-1)) (o_VectorSolverModel_symbol 30 rfl) rfl (by decide) (by decide) ?_
          replace h := h _ rfl
          refine xJ.goto (tgt := 7) (o_VectorSolverModel_symbol 31 rfl) (by decide) ?_
          exact xJ.lvs (by exact ⟨rfl, rfl, trivial⟩) (ih _ _ h)
        · replace h := h.2 z
          refine xJ.aload_n (o_VectorSolverModel_symbol 25 rfl) rfl ?_
          refine xJ.getfield (o_VectorSolverModel_symbol 26 rfl) f_VectorSolverModel_106 rfl rfl ?_
          refine xJ.iload_n (o_VectorSolverModel_symbol 27 rfl) rfl ?_
          refine xJ.iaload (o_VectorSolverModel_symbol 28 rfl) rfl h.1 ?_
          replace h := h.2
          exact xJ.ireturn (o_VectorSolverModel_symbol 29 rfl) rfl h
set_option maxRecDepth 20000 in
theorem s_VectorSolverModel_symbol {γ : xG1} {d : Nat} {Q : xO → xS → Prop} {σ : xS}  (h : wp_VectorSolverModel_symbol Q σ ) : xM (SHP, γ) Y_VectorSolverModel_symbol (d + 2) [.ref 50] σ Q := by
  refine xM.of (by decide) (Nat.le_of_ble_eq_true rfl) ?_
  refine xJ.aload_n (o_VectorSolverModel_symbol 0 rfl) rfl ?_
  refine xJ.getfield (o_VectorSolverModel_symbol 1 rfl) f_VectorSolverModel_270 rfl rfl ?_
  refine xJ.iconst (v := 1) (o_VectorSolverModel_symbol 2 rfl) (by decide) ?_
  refine xJ.isub (o_VectorSolverModel_symbol 3 rfl) ?_
  refine xJ.istore_n (o_VectorSolverModel_symbol 4 rfl) (by decide) ?_
  replace h := h _ rfl
  obtain ⟨m, h⟩ := h
  exact xJ.lvs (by exact ⟨rfl, rfl, trivial⟩) (sw_VectorSolverModel_symbol_7 m _ _ h)
def w_VectorSolverModel_term_187 (Q : xO → xS → Prop) (K142 : Int32 → Int32 → Int32 → xS → Prop) (a1 : Int32) (a2 : Int32) (t0 : Int32) (σ : xS) : Prop :=
  ((t0 = 0 → K142 a1 a2 t0 σ) ∧ (¬ t0 = 0 → (vp_in (xi σ 50 29) 64 ∧ ((¬ (xi σ 70 (xi σ 50 29).toNatClampNeg) = 0 → K142 a1 a2 t0 σ) ∧ ((xi σ 70 (xi σ 50 29).toNatClampNeg) = 0 → wp_VectorSolverModel_apply (xqi (fun r7 u6 => K142 a1 r7 t0 u6) (fun n u => Q (.inr n) u)) σ )))))
def w_VectorSolverModel_term_186 (Q : xO → xS → Prop) (K142 : Int32 → Int32 → Int32 → xS → Prop) (a1 : Int32) (a2 : Int32) (σ : xS) : Prop :=
  w_VectorSolverModel_term_187 Q K142 a1 a2 0 σ
def w_VectorSolverModel_term_169 (Q : xO → xS → Prop) (K142 : Int32 → Int32 → Int32 → xS → Prop) (a2 : Int32) (t0 : Int32) (σ : xS) : Prop :=
  ((¬ t0 = 0 → w_VectorSolverModel_term_186 Q K142 t0 a2 σ) ∧ (t0 = 0 → wp_VectorSolverModel_goOn (xqi (fun r9 u8 => ((r9 = 0 → w_VectorSolverModel_term_186 Q K142 t0 a2 u8) ∧ (¬ r9 = 0 → w_VectorSolverModel_term_187 Q K142 t0 a2 1 u8))) (fun n u => Q (.inr n) u)) σ a2))
def w_VectorSolverModel_term_142 (Q : xO → xS → Prop) (K19 : Int32 → Int32 → xS → Prop) : Nat → Int32 → Int32 → Int32 → xS → Prop
  | 0 => fun _ _ _ _ => False
  | n + 1 => fun a1 a2 a3 σ =>
    ((¬ (xi σ 50 4) = 0 → K19 a1 a2 σ) ∧ ((xi σ 50 4) = 0 → ((a3 = 0 → K19 a1 a2 σ) ∧ (¬ a3 = 0 → ((¬ a1 = 0 → K19 a1 a2 σ) ∧ (a1 = 0 → ((¬ (xi σ 50 29) = 0 → w_VectorSolverModel_term_169 Q (w_VectorSolverModel_term_142 Q K19 n) a2 0 σ) ∧ ((xi σ 50 29) = 0 → w_VectorSolverModel_term_169 Q (w_VectorSolverModel_term_142 Q K19 n) a2 1 σ))))))))
def w_VectorSolverModel_term_82 (Q : xO → xS → Prop) (K19 : Int32 → Int32 → xS → Prop) (a1 : Int32) (σ : xS) : Prop :=
  wp_VectorSolverModel_constant (xqi (fun r5 u4 => ∃ m, w_VectorSolverModel_term_142 Q K19 m a1 r5 1 u4) (fun n u => Q (.inr n) u)) σ 
def w_VectorSolverModel_term_111 (Q : xO → xS → Prop) (K19 : Int32 → Int32 → xS → Prop) (a1 : Int32) (a2 : Int32) (a3 : Int32) (t1 : Int32) (σ : xS) : Prop :=
  wp_VectorSolverModel_must (xqi (fun r11 u10 => ((r11 = 0 → ∃ m, w_VectorSolverModel_term_142 Q K19 m a1 a2 a3 u10) ∧ (¬ r11 = 0 → wp_VectorSolverModel_opening (xqi (fun r13 u12 => ((r13 = 0 → ∃ m, w_VectorSolverModel_term_142 Q K19 m a1 a2 r13 u12) ∧ (¬ r13 = 0 → ((¬ (xi u12 50 4) = 0 → ∃ m, w_VectorSolverModel_term_142 Q K19 m a1 a2 r13 u12) ∧ ((xi u12 50 4) = 0 → wp_VectorSolverModel_apply (xqi (fun r15 u14 => ∃ m, w_VectorSolverModel_term_142 Q K19 m a1 r15 r13 u14) (fun n u => Q (.inr n) u)) u12 ))))) (fun n u => Q (.inr n) u)) u10 ))) (fun n u => Q (.inr n) u)) σ t1
def w_VectorSolverModel_term_19 (Q : xO → xS → Prop) : Nat → Int32 → Int32 → xS → Prop
  | 0 => fun _ _ _ => False
  | n + 1 => fun a1 a2 σ =>
    ((¬ (xi σ 50 4) = 0 → Q (.inl (some (.int a2))) σ) ∧ ((xi σ 50 4) = 0 → ((¬ a1 = 0 → Q (.inl (some (.int a2))) σ) ∧ (a1 = 0 → (vp_in (xi σ 50 10) 65537 ∧ ((¬ (xi σ 52 (xi σ 50 10).toNatClampNeg) = 6 → (vp_in (xi σ 50 10) 65537 ∧ (((xi σ 52 (xi σ 50 10).toNatClampNeg) = 4 → w_VectorSolverModel_term_82 Q (w_VectorSolverModel_term_19 Q n) a1 σ) ∧ (¬ (xi σ 52 (xi σ 50 10).toNatClampNeg) = 4 → (vp_in (xi σ 50 10) 65537 ∧ ((¬ (xi σ 52 (xi σ 50 10).toNatClampNeg) = 5 → (vp_in (xi σ 50 10) 65537 ∧ ((¬ (xi σ 52 (xi σ 50 10).toNatClampNeg) = 1 → w_VectorSolverModel_term_111 Q (w_VectorSolverModel_term_19 Q n) a1 a2 0 0 σ) ∧ ((xi σ 52 (xi σ 50 10).toNatClampNeg) = 1 → w_VectorSolverModel_term_111 Q (w_VectorSolverModel_term_19 Q n) a1 a2 0 1 σ)))) ∧ ((xi σ 52 (xi σ 50 10).toNatClampNeg) = 5 → w_VectorSolverModel_term_82 Q (w_VectorSolverModel_term_19 Q n) a1 σ))))))) ∧ ((xi σ 52 (xi σ 50 10).toNatClampNeg) = 6 → wp_VectorSolverModel_symbol (xqi (fun r17 u16 => ∃ m, w_VectorSolverModel_term_142 Q (w_VectorSolverModel_term_19 Q n) m a1 r17 1 u16) (fun n u => Q (.inr n) u)) σ )))))))
def wp_VectorSolverModel_term (Q : xO → xS → Prop) (σ : xS)  : Prop :=
  (∀ s1 : xS, s1 = xpi σ 50 29 0 → (∀ s2 : xS, s2 = xpi s1 50 36 0 → (∀ s3 : xS, s3 = xpi s2 50 38 0 → ∃ m, w_VectorSolverModel_term_19 Q m 0 0 s3)))
set_option maxRecDepth 20000 in
theorem sw_VectorSolverModel_term_187 {γ : xG1} {d b0 : Nat} {Q : xO → xS → Prop} {K142 : Int32 → Int32 → Int32 → xS → Prop} (hK142 : ∀ a1 a2 a3 σ, K142 a1 a2 a3 σ → xJ (SHP, γ) Y_VectorSolverModel_term (d + 5) b0 142 [(0, .ref 50), (1, .int a1), (2, .int a2), (3, .int a3)] [] σ Q) {a1 : Int32} {a2 : Int32} {t0 : Int32} {σ : xS} (h : w_VectorSolverModel_term_187 Q K142 a1 a2 t0 σ) : xJ (SHP, γ) Y_VectorSolverModel_term (d + 5) b0 187 [(0, .ref 50), (1, .int a1), (2, .int a2)] [.int t0] σ Q := by
  refine xJ.istore_n (o_VectorSolverModel_term 102 rfl) (by decide) ?_
  refine xJ.iload_n (o_VectorSolverModel_term 103 rfl) rfl ?_
  refine xJ.if_eq (tgt := 211) (o_VectorSolverModel_term 104 rfl) (by decide) (fun z => ?_) (fun z => ?_)
  · replace h := h.1 z
    refine xJ.iload_n (o_VectorSolverModel_term 114 rfl) rfl ?_
    refine xJ.istore_n (o_VectorSolverModel_term 115 rfl) (by decide) ?_
    refine xJ.goto (tgt := 142) (o_VectorSolverModel_term 116 rfl) (by decide) ?_
    exact xJ.lvs (by exact ⟨rfl, rfl, rfl, rfl, trivial⟩) (hK142 _ _ _ _ h)
  · replace h := h.2 z
    refine xJ.aload_n (o_VectorSolverModel_term 105 rfl) rfl ?_
    refine xJ.getfield (o_VectorSolverModel_term 106 rfl) f_VectorSolverModel_82 rfl rfl ?_
    refine xJ.aload_n (o_VectorSolverModel_term 107 rfl) rfl ?_
    refine xJ.getfield (o_VectorSolverModel_term 108 rfl) f_VectorSolverModel_264 rfl rfl ?_
    refine xJ.iaload (o_VectorSolverModel_term 109 rfl) rfl h.1 ?_
    replace h := h.2
    refine xJ.if_ne (tgt := 211) (o_VectorSolverModel_term 110 rfl) (by decide) (fun z => ?_) (fun z => ?_)
    · replace h := h.1 z
      refine xJ.iload_n (o_VectorSolverModel_term 114 rfl) rfl ?_
      refine xJ.istore_n (o_VectorSolverModel_term 115 rfl) (by decide) ?_
      refine xJ.goto (tgt := 142) (o_VectorSolverModel_term 116 rfl) (by decide) ?_
      exact xJ.lvs (by exact ⟨rfl, rfl, rfl, rfl, trivial⟩) (hK142 _ _ _ _ h)
    · replace h := h.2 z
      refine xJ.aload_n (o_VectorSolverModel_term 111 rfl) rfl ?_
      refine xJ.callV (Y' := Y_VectorSolverModel_apply) (o_VectorSolverModel_term 112 rfl) m_VectorSolverModel_283 y_VectorSolverModel_apply im_VectorSolverModel_apply se_VectorSolverModel_apply rfl rfl (s_VectorSolverModel_apply h) rfl rfl (Nat.le_of_ble_eq_true rfl) (fun _ hx => by cases hx) (fun v u q => ?_) (fun n u q => q)
      obtain ⟨r, rfl, h⟩ := xqi_get q
      refine xJ.goto (tgt := 212) (o_VectorSolverModel_term 113 rfl) (by decide) ?_
      refine xJ.istore_n (o_VectorSolverModel_term 115 rfl) (by decide) ?_
      refine xJ.goto (tgt := 142) (o_VectorSolverModel_term 116 rfl) (by decide) ?_
      exact xJ.lvs (by exact ⟨rfl, rfl, rfl, rfl, trivial⟩) (hK142 _ _ _ _ h)
set_option maxRecDepth 20000 in
theorem sw_VectorSolverModel_term_186 {γ : xG1} {d b0 : Nat} {Q : xO → xS → Prop} {K142 : Int32 → Int32 → Int32 → xS → Prop} (hK142 : ∀ a1 a2 a3 σ, K142 a1 a2 a3 σ → xJ (SHP, γ) Y_VectorSolverModel_term (d + 5) b0 142 [(0, .ref 50), (1, .int a1), (2, .int a2), (3, .int a3)] [] σ Q) {a1 : Int32} {a2 : Int32} {σ : xS} (h : w_VectorSolverModel_term_186 Q K142 a1 a2 σ) : xJ (SHP, γ) Y_VectorSolverModel_term (d + 5) b0 186 [(0, .ref 50), (1, .int a1), (2, .int a2)] [] σ Q := by
  refine xJ.iconst (v := 0) (o_VectorSolverModel_term 101 rfl) (by decide) ?_
  exact xJ.lvs (by exact ⟨rfl, rfl, rfl, trivial⟩) (sw_VectorSolverModel_term_187 hK142 h)
set_option maxRecDepth 20000 in
theorem sw_VectorSolverModel_term_169 {γ : xG1} {d b0 : Nat} {Q : xO → xS → Prop} {K142 : Int32 → Int32 → Int32 → xS → Prop} (hK142 : ∀ a1 a2 a3 σ, K142 a1 a2 a3 σ → xJ (SHP, γ) Y_VectorSolverModel_term (d + 5) b0 142 [(0, .ref 50), (1, .int a1), (2, .int a2), (3, .int a3)] [] σ Q) {a2 : Int32} {t0 : Int32} {σ : xS} (h : w_VectorSolverModel_term_169 Q K142 a2 t0 σ) : xJ (SHP, γ) Y_VectorSolverModel_term (d + 5) b0 169 [(0, .ref 50), (2, .int a2)] [.int t0] σ Q := by
  refine xJ.istore_n (o_VectorSolverModel_term 92 rfl) (by decide) ?_
  refine xJ.iload_n (o_VectorSolverModel_term 93 rfl) rfl ?_
  refine xJ.if_ne (tgt := 186) (o_VectorSolverModel_term 94 rfl) (by decide) (fun z => ?_) (fun z => ?_)
  · replace h := h.1 z
    exact xJ.lvs (by exact ⟨rfl, rfl, rfl, trivial⟩) (sw_VectorSolverModel_term_186 hK142 h)
  · replace h := h.2 z
    refine xJ.aload_n (o_VectorSolverModel_term 95 rfl) rfl ?_
    refine xJ.iload_n (o_VectorSolverModel_term 96 rfl) rfl ?_
    refine xJ.callV (Y' := Y_VectorSolverModel_goOn) (o_VectorSolverModel_term 97 rfl) m_VectorSolverModel_286 y_VectorSolverModel_goOn im_VectorSolverModel_goOn se_VectorSolverModel_goOn rfl rfl (s_VectorSolverModel_goOn h) rfl rfl (Nat.le_of_ble_eq_true rfl) (fun _ hx => by cases hx) (fun v u q => ?_) (fun n u q => q)
    obtain ⟨r, rfl, h⟩ := xqi_get q
    refine xJ.if_eq (tgt := 186) (o_VectorSolverModel_term 98 rfl) (by decide) (fun z => ?_) (fun z => ?_)
    · replace h := h.1 z
      exact xJ.lvs (by exact ⟨rfl, rfl, rfl, trivial⟩) (sw_VectorSolverModel_term_186 hK142 h)
    · replace h := h.2 z
      refine xJ.iconst (v := 1) (o_VectorSolverModel_term 99 rfl) (by decide) ?_
      refine xJ.goto (tgt := 187) (o_VectorSolverModel_term 100 rfl) (by decide) ?_
      exact xJ.lvs (by exact ⟨rfl, rfl, rfl, trivial⟩) (sw_VectorSolverModel_term_187 hK142 h)
set_option maxRecDepth 20000 in
theorem sw_VectorSolverModel_term_142 {γ : xG1} {d b0 : Nat} {Q : xO → xS → Prop} {K19 : Int32 → Int32 → xS → Prop} (hK19 : ∀ a1 a2 σ, K19 a1 a2 σ → xJ (SHP, γ) Y_VectorSolverModel_term (d + 5) b0 19 [(0, .ref 50), (1, .int a1), (2, .int a2)] [] σ Q) : ∀ (n : Nat) (a1 : Int32) (a2 : Int32) (a3 : Int32) (σ : xS), w_VectorSolverModel_term_142 Q K19 n a1 a2 a3 σ → xJ (SHP, γ) Y_VectorSolverModel_term (d + 5) b0 142 [(0, .ref 50), (1, .int a1), (2, .int a2), (3, .int a3)] [] σ Q := by
  intro n
  induction n with
  | zero => intro a1 a2 a3 σ h; exact h.elim
  | succ n ih =>
    intro a1 a2 a3 σ h
    refine xJ.aload_n (o_VectorSolverModel_term 79 rfl) rfl ?_
    refine xJ.getfield (o_VectorSolverModel_term 80 rfl) f_VectorSolverModel_166 rfl rfl ?_
    refine xJ.if_ne (tgt := 216) (o_VectorSolverModel_term 81 rfl) (by decide) (fun z => ?_) (fun z => ?_)
    · replace h := h.1 z
      refine xJ.goto (tgt := 19) (o_VectorSolverModel_term 117 rfl) (by decide) ?_
      exact xJ.lvs (by exact ⟨rfl, rfl, rfl, trivial⟩) (hK19 _ _ _ h)
    · replace h := h.2 z
      refine xJ.iload_n (o_VectorSolverModel_term 82 rfl) rfl ?_
      refine xJ.if_eq (tgt := 216) (o_VectorSolverModel_term 83 rfl) (by decide) (fun z => ?_) (fun z => ?_)
      · replace h := h.1 z
        refine xJ.goto (tgt := 19) (o_VectorSolverModel_term 117 rfl) (by decide) ?_
        exact xJ.lvs (by exact ⟨rfl, rfl, rfl, trivial⟩) (hK19 _ _ _ h)
      · replace h := h.2 z
        refine xJ.iload_n (o_VectorSolverModel_term 84 rfl) rfl ?_
        refine xJ.if_ne (tgt := 216) (o_VectorSolverModel_term 85 rfl) (by decide) (fun z => ?_) (fun z => ?_)
        · replace h := h.1 z
          refine xJ.goto (tgt := 19) (o_VectorSolverModel_term 117 rfl) (by decide) ?_
          exact xJ.lvs (by exact ⟨rfl, rfl, rfl, trivial⟩) (hK19 _ _ _ h)
        · replace h := h.2 z
          refine xJ.aload_n (o_VectorSolverModel_term 86 rfl) rfl ?_
          refine xJ.getfield (o_VectorSolverModel_term 87 rfl) f_VectorSolverModel_264 rfl rfl ?_
          refine xJ.if_ne (tgt := 168) (o_VectorSolverModel_term 88 rfl) (by decide) (fun z => ?_) (fun z => ?_)
          · replace h := h.1 z
            refine xJ.iconst (v := 0) (o_VectorSolverModel_term 91 rfl) (by decide) ?_
            exact xJ.lvs (by exact ⟨rfl, rfl, trivial⟩) (sw_VectorSolverModel_term_169 ih h)
          · replace h := h.2 z
            refine xJ.iconst (v := 1) (o_VectorSolverModel_term 89 rfl) (by decide) ?_
            refine xJ.goto (tgt := 169) (o_VectorSolverModel_term 90 rfl) (by decide) ?_
            exact xJ.lvs (by exact ⟨rfl, rfl, trivial⟩) (sw_VectorSolverModel_term_169 ih h)
set_option maxRecDepth 20000 in
theorem sw_VectorSolverModel_term_82 {γ : xG1} {d b0 : Nat} {Q : xO → xS → Prop} {K19 : Int32 → Int32 → xS → Prop} (hK19 : ∀ a1 a2 σ, K19 a1 a2 σ → xJ (SHP, γ) Y_VectorSolverModel_term (d + 5) b0 19 [(0, .ref 50), (1, .int a1), (2, .int a2)] [] σ Q) {a1 : Int32} {σ : xS} (h : w_VectorSolverModel_term_82 Q K19 a1 σ) : xJ (SHP, γ) Y_VectorSolverModel_term (d + 5) b0 82 [(0, .ref 50), (1, .int a1)] [] σ Q := by
  refine xJ.aload_n (o_VectorSolverModel_term 47 rfl) rfl ?_
  refine xJ.callV (Y' := Y_VectorSolverModel_constant) (o_VectorSolverModel_term 48 rfl) m_VectorSolverModel_276 y_VectorSolverModel_constant im_VectorSolverModel_constant se_VectorSolverModel_constant rfl rfl (s_VectorSolverModel_constant h) rfl rfl (Nat.le_of_ble_eq_true rfl) (fun _ hx => by cases hx) (fun v u q => ?_) (fun n u q => q)
  obtain ⟨r, rfl, h⟩ := xqi_get q
  refine xJ.istore_n (o_VectorSolverModel_term 49 rfl) (by decide) ?_
  refine xJ.iconst (v := 1) (o_VectorSolverModel_term 50 rfl) (by decide) ?_
  refine xJ.istore_n (o_VectorSolverModel_term 51 rfl) (by decide) ?_
  refine xJ.goto (tgt := 142) (o_VectorSolverModel_term 52 rfl) (by decide) ?_
  obtain ⟨m, h⟩ := h
  exact xJ.lvs (by exact ⟨rfl, rfl, rfl, rfl, trivial⟩) (sw_VectorSolverModel_term_142 hK19 m _ _ _ _ h)
set_option maxRecDepth 20000 in
theorem sw_VectorSolverModel_term_111 {γ : xG1} {d b0 : Nat} {Q : xO → xS → Prop} {K19 : Int32 → Int32 → xS → Prop} (hK19 : ∀ a1 a2 σ, K19 a1 a2 σ → xJ (SHP, γ) Y_VectorSolverModel_term (d + 5) b0 19 [(0, .ref 50), (1, .int a1), (2, .int a2)] [] σ Q) {a1 : Int32} {a2 : Int32} {a3 : Int32} {t1 : Int32} {σ : xS} (h : w_VectorSolverModel_term_111 Q K19 a1 a2 a3 t1 σ) : xJ (SHP, γ) Y_VectorSolverModel_term (d + 5) b0 111 [(0, .ref 50), (1, .int a1), (2, .int a2), (3, .int a3)] [.int t1, .ref 50] σ Q := by
  refine xJ.callV (Y' := Y_VectorSolverModel_must) (o_VectorSolverModel_term 64 rfl) m_VectorSolverModel_179 y_VectorSolverModel_must im_VectorSolverModel_must se_VectorSolverModel_must rfl rfl (s_VectorSolverModel_must h) rfl rfl (Nat.le_of_ble_eq_true rfl) (fun _ hx => by cases hx) (fun v u q => ?_) (fun n u q => q)
  obtain ⟨r, rfl, h⟩ := xqi_get q
  refine xJ.if_eq (tgt := 142) (o_VectorSolverModel_term 65 rfl) (by decide) (fun z => ?_) (fun z => ?_)
  · replace h := h.1 z
    obtain ⟨m, h⟩ := h
    exact xJ.lvs (by exact ⟨rfl, rfl, rfl, rfl, trivial⟩) (sw_VectorSolverModel_term_142 hK19 m _ _ _ _ h)
  · replace h := h.2 z
    refine xJ.aload_n (o_VectorSolverModel_term 66 rfl) rfl ?_
    refine xJ.callV (Y' := Y_VectorSolverModel_opening) (o_VectorSolverModel_term 67 rfl) m_VectorSolverModel_279 y_VectorSolverModel_opening im_VectorSolverModel_opening se_VectorSolverModel_opening rfl rfl (s_VectorSolverModel_opening h) rfl rfl (Nat.le_of_ble_eq_true rfl) (fun _ hx => by cases hx) (fun v u q => ?_) (fun n u q => q)
    obtain ⟨r, rfl, h⟩ := xqi_get q
    refine xJ.istore_n (o_VectorSolverModel_term 68 rfl) (by decide) ?_
    refine xJ.iload_n (o_VectorSolverModel_term 69 rfl) rfl ?_
    refine xJ.if_eq (tgt := 140) (o_VectorSolverModel_term 70 rfl) (by decide) (fun z => ?_) (fun z => ?_)
    · replace h := h.1 z
      refine xJ.iload_n (o_VectorSolverModel_term 77 rfl) rfl ?_
      refine xJ.istore_n (o_VectorSolverModel_term 78 rfl) (by decide) ?_
      obtain ⟨m, h⟩ := h
      exact xJ.lvs (by exact ⟨rfl, rfl, rfl, rfl, trivial⟩) (sw_VectorSolverModel_term_142 hK19 m _ _ _ _ h)
    · replace h := h.2 z
      refine xJ.aload_n (o_VectorSolverModel_term 71 rfl) rfl ?_
      refine xJ.getfield (o_VectorSolverModel_term 72 rfl) f_VectorSolverModel_166 rfl rfl ?_
      refine xJ.if_ne (tgt := 140) (o_VectorSolverModel_term 73 rfl) (by decide) (fun z => ?_) (fun z => ?_)
      · replace h := h.1 z
        refine xJ.iload_n (o_VectorSolverModel_term 77 rfl) rfl ?_
        refine xJ.istore_n (o_VectorSolverModel_term 78 rfl) (by decide) ?_
        obtain ⟨m, h⟩ := h
        exact xJ.lvs (by exact ⟨rfl, rfl, rfl, rfl, trivial⟩) (sw_VectorSolverModel_term_142 hK19 m _ _ _ _ h)
      · replace h := h.2 z
        refine xJ.aload_n (o_VectorSolverModel_term 74 rfl) rfl ?_
        refine xJ.callV (Y' := Y_VectorSolverModel_apply) (o_VectorSolverModel_term 75 rfl) m_VectorSolverModel_283 y_VectorSolverModel_apply im_VectorSolverModel_apply se_VectorSolverModel_apply rfl rfl (s_VectorSolverModel_apply h) rfl rfl (Nat.le_of_ble_eq_true rfl) (fun _ hx => by cases hx) (fun v u q => ?_) (fun n u q => q)
        obtain ⟨r, rfl, h⟩ := xqi_get q
        refine xJ.goto (tgt := 141) (o_VectorSolverModel_term 76 rfl) (by decide) ?_
        refine xJ.istore_n (o_VectorSolverModel_term 78 rfl) (by decide) ?_
        obtain ⟨m, h⟩ := h
        exact xJ.lvs (by exact ⟨rfl, rfl, rfl, rfl, trivial⟩) (sw_VectorSolverModel_term_142 hK19 m _ _ _ _ h)
set_option maxRecDepth 20000 in
theorem sw_VectorSolverModel_term_19 {γ : xG1} {d b0 : Nat} {Q : xO → xS → Prop} : ∀ (n : Nat) (a1 : Int32) (a2 : Int32) (σ : xS), w_VectorSolverModel_term_19 Q n a1 a2 σ → xJ (SHP, γ) Y_VectorSolverModel_term (d + 5) b0 19 [(0, .ref 50), (1, .int a1), (2, .int a2)] [] σ Q := by
  intro n
  induction n with
  | zero => intro a1 a2 σ h; exact h.elim
  | succ n ih =>
    intro a1 a2 σ h
    refine xJ.aload_n (o_VectorSolverModel_term 13 rfl) rfl ?_
    refine xJ.getfield (o_VectorSolverModel_term 14 rfl) f_VectorSolverModel_166 rfl rfl ?_
    refine xJ.if_ne (tgt := 219) (o_VectorSolverModel_term 15 rfl) (by decide) (fun z => ?_) (fun z => ?_)
    · replace h := h.1 z
      refine xJ.iload_n (o_VectorSolverModel_term 118 rfl) rfl ?_
      exact xJ.ireturn (o_VectorSolverModel_term 119 rfl) rfl h
    · replace h := h.2 z
      refine xJ.iload_n (o_VectorSolverModel_term 16 rfl) rfl ?_
      refine xJ.if_ne (tgt := 219) (o_VectorSolverModel_term 17 rfl) (by decide) (fun z => ?_) (fun z => ?_)
      · replace h := h.1 z
        refine xJ.iload_n (o_VectorSolverModel_term 118 rfl) rfl ?_
        exact xJ.ireturn (o_VectorSolverModel_term 119 rfl) rfl h
      · replace h := h.2 z
        refine xJ.iconst (v := 0) (o_VectorSolverModel_term 18 rfl) (by decide) ?_
        refine xJ.istore_n (o_VectorSolverModel_term 19 rfl) (by decide) ?_
        refine xJ.aload_n (o_VectorSolverModel_term 20 rfl) rfl ?_
        refine xJ.getfield (o_VectorSolverModel_term 21 rfl) f_VectorSolverModel_25 rfl rfl ?_
        refine xJ.aload_n (o_VectorSolverModel_term 22 rfl) rfl ?_
        refine xJ.getfield (o_VectorSolverModel_term 23 rfl) f_VectorSolverModel_169 rfl rfl ?_
        refine xJ.baload (o_VectorSolverModel_term 24 rfl) rfl h.1 ?_
        replace h := h.2
        refine xJ.bipush (v := 6) (o_VectorSolverModel_term 25 rfl) (by decide) ?_
        refine xJ.icmp_ne (tgt := 56) (o_VectorSolverModel_term 26 rfl) (by decide) (fun z => ?_) (fun z => ?_)
        · replace h := h.1 z
          refine xJ.aload_n (o_VectorSolverModel_term 33 rfl) rfl ?_
          refine xJ.getfield (o_VectorSolverModel_term 34 rfl) f_VectorSolverModel_25 rfl rfl ?_
          refine xJ.aload_n (o_VectorSolverModel_term 35 rfl) rfl ?_
          refine xJ.getfield (o_VectorSolverModel_term 36 rfl) f_VectorSolverModel_169 rfl rfl ?_
          refine xJ.baload (o_VectorSolverModel_term 37 rfl) rfl h.1 ?_
          replace h := h.2
          refine xJ.iconst (v := 4) (o_VectorSolverModel_term 38 rfl) (by decide) ?_
          refine xJ.icmp_eq (tgt := 82) (o_VectorSolverModel_term 39 rfl) (by decide) (fun z => ?_) (fun z => ?_)
          · replace h := h.1 z
            exact xJ.lvs (by exact ⟨rfl, rfl, trivial⟩) (sw_VectorSolverModel_term_82 ih h)
          · replace h := h.2 z
            refine xJ.aload_n (o_VectorSolverModel_term 40 rfl) rfl ?_
            refine xJ.getfield (o_VectorSolverModel_term 41 rfl) f_VectorSolverModel_25 rfl rfl ?_
            refine xJ.aload_n (o_VectorSolverModel_term 42 rfl) rfl ?_
            refine xJ.getfield (o_VectorSolverModel_term 43 rfl) f_VectorSolverModel_169 rfl rfl ?_
            refine xJ.baload (o_VectorSolverModel_term 44 rfl) rfl h.1 ?_
            replace h := h.2
            refine xJ.iconst (v := 5) (o_VectorSolverModel_term 45 rfl) (by decide) ?_
            refine xJ.icmp_ne (tgt := 92) (o_VectorSolverModel_term 46 rfl) (by decide) (fun z => ?_) (fun z => ?_)
            · replace h := h.1 z
              refine xJ.aload_n (o_VectorSolverModel_term 53 rfl) rfl ?_
              refine xJ.aload_n (o_VectorSolverModel_term 54 rfl) rfl ?_
              refine xJ.getfield (o_VectorSolverModel_term 55 rfl) f_VectorSolverModel_25 rfl rfl ?_
              refine xJ.aload_n (o_VectorSolverModel_term 56 rfl) rfl ?_
              refine xJ.getfield (o_VectorSolverModel_term 57 rfl) f_VectorSolverModel_169 rfl rfl ?_
              refine xJ.baload (o_VectorSolverModel_term 58 rfl) rfl h.1 ?_
              replace h := h.2
              refine xJ.iconst (v := 1) (o_VectorSolverModel_term 59 rfl) (by decide) ?_
              refine xJ.icmp_ne (tgt := 110) (o_VectorSolverModel_term 60 rfl) (by decide) (fun z => ?_) (fun z => ?_)
              · replace h := h.1 z
                refine xJ.iconst (v := 0) (o_VectorSolverModel_term 63 rfl) (by decide) ?_
                exact xJ.lvs (by exact ⟨rfl, rfl, rfl, rfl, trivial⟩) (sw_VectorSolverModel_term_111 ih h)
              · replace h := h.2 z
                refine xJ.iconst (v := 1) (o_VectorSolverModel_term 61 rfl) (by decide) ?_
                refine xJ.goto (tgt := 111) (o_VectorSolverModel_term 62 rfl) (by decide) ?_
                exact xJ.lvs (by exact ⟨rfl, rfl, rfl, rfl, trivial⟩) (sw_VectorSolverModel_term_111 ih h)
            · replace h := h.2 z
              exact xJ.lvs (by exact ⟨rfl, rfl, trivial⟩) (sw_VectorSolverModel_term_82 ih h)
        · replace h := h.2 z
          refine xJ.aload_n (o_VectorSolverModel_term 27 rfl) rfl ?_
          refine xJ.callV (Y' := Y_VectorSolverModel_symbol) (o_VectorSolverModel_term 28 rfl) m_VectorSolverModel_273 y_VectorSolverModel_symbol im_VectorSolverModel_symbol se_VectorSolverModel_symbol rfl rfl (s_VectorSolverModel_symbol h) rfl rfl (Nat.le_of_ble_eq_true rfl) (fun _ hx => by cases hx) (fun v u q => ?_) (fun n u q => q)
          obtain ⟨r, rfl, h⟩ := xqi_get q
          refine xJ.istore_n (o_VectorSolverModel_term 29 rfl) (by decide) ?_
          refine xJ.iconst (v := 1) (o_VectorSolverModel_term 30 rfl) (by decide) ?_
          refine xJ.istore_n (o_VectorSolverModel_term 31 rfl) (by decide) ?_
          refine xJ.goto (tgt := 142) (o_VectorSolverModel_term 32 rfl) (by decide) ?_
          obtain ⟨m, h⟩ := h
          exact xJ.lvs (by exact ⟨rfl, rfl, rfl, rfl, trivial⟩) (sw_VectorSolverModel_term_142 ih m _ _ _ _ h)
set_option maxRecDepth 20000 in
theorem s_VectorSolverModel_term {γ : xG1} {d : Nat} {Q : xO → xS → Prop} {σ : xS}  (h : wp_VectorSolverModel_term Q σ ) : xM (SHP, γ) Y_VectorSolverModel_term (d + 5) [.ref 50] σ Q := by
  refine xM.of (by decide) (Nat.le_of_ble_eq_true rfl) ?_
  refine xJ.aload_n (o_VectorSolverModel_term 0 rfl) rfl ?_
  refine xJ.iconst (v := 0) (o_VectorSolverModel_term 1 rfl) (by decide) ?_
  refine xJ.putI (o_VectorSolverModel_term 2 rfl) f_VectorSolverModel_264 rfl rfl rfl ?_
  replace h := h _ rfl
  refine xJ.aload_n (o_VectorSolverModel_term 3 rfl) rfl ?_
  refine xJ.iconst (v := 0) (o_VectorSolverModel_term 4 rfl) (by decide) ?_
  refine xJ.putI (o_VectorSolverModel_term 5 rfl) f_VectorSolverModel_267 rfl rfl rfl ?_
  replace h := h _ rfl
  refine xJ.aload_n (o_VectorSolverModel_term 6 rfl) rfl ?_
  refine xJ.iconst (v := 0) (o_VectorSolverModel_term 7 rfl) (by decide) ?_
  refine xJ.putI (o_VectorSolverModel_term 8 rfl) f_VectorSolverModel_270 rfl rfl rfl ?_
  replace h := h _ rfl
  refine xJ.iconst (v := 0) (o_VectorSolverModel_term 9 rfl) (by decide) ?_
  refine xJ.istore_n (o_VectorSolverModel_term 10 rfl) (by decide) ?_
  refine xJ.iconst (v := 0) (o_VectorSolverModel_term 11 rfl) (by decide) ?_
  refine xJ.istore_n (o_VectorSolverModel_term 12 rfl) (by decide) ?_
  obtain ⟨m, h⟩ := h
  exact xJ.lvs (by exact ⟨rfl, rfl, rfl, trivial⟩) (sw_VectorSolverModel_term_19 m _ _ _ h)
def w_VectorSolverModel_told_78 (Q : xO → xS → Prop) (a3 : Int32) (a4 : Int32) (t0 : Int32) (σ : xS) : Prop :=
  (∀ s6 : xS, s6 = xpi σ 50 55 a3 → Q (.inl (some (.int a4))) s6)
def w_VectorSolverModel_told_73 (Q : xO → xS → Prop) (a3 : Int32) (a4 : Int32) (σ : xS) : Prop :=
  w_VectorSolverModel_told_78 Q a3 a4 1 σ
def w_VectorSolverModel_told_64 (Q : xO → xS → Prop) (a3 : Int32) (a4 : Int32) (t1 : Int32) (σ : xS) : Prop :=
  wp_VectorSolverModel_want (xqi (fun r8 u7 => ((r8 = 0 → w_VectorSolverModel_told_78 Q a3 a4 0 u7) ∧ (¬ r8 = 0 → w_VectorSolverModel_told_73 Q a3 a4 u7))) (fun n u => Q (.inr n) u)) σ t1 9 a3
def w_VectorSolverModel_told_63 (Q : xO → xS → Prop) (a3 : Int32) (a4 : Int32) (σ : xS) : Prop :=
  w_VectorSolverModel_told_64 Q a3 a4 0 σ
def wp_VectorSolverModel_told (Q : xO → xS → Prop) (σ : xS) (a1 : Int32) (a2 : Int32) : Prop :=
  wp_VectorSolverModel_next (xqv (fun u1 => (((xi u1 50 4) ≤ 0 → (vp_in (xi u1 50 10) 65537 ∧ (∀ x3 : Int32, x3 = (xi u1 53 (xi u1 50 10).toNatClampNeg) → wp_VectorSolverModel_term (xqi (fun r5 u4 => ((0 < (xi u4 50 4) → w_VectorSolverModel_told_73 Q x3 r5 u4) ∧ (¬ 0 < (xi u4 50 4) → (vp_in r5 2000 ∧ ((¬ (xi u4 57 r5.toNatClampNeg) = a1 → w_VectorSolverModel_told_63 Q x3 r5 u4) ∧ ((xi u4 57 r5.toNatClampNeg) = a1 → (vp_in r5 2000 ∧ ((¬ (xi u4 58 r5.toNatClampNeg) = a2 → w_VectorSolverModel_told_63 Q x3 r5 u4) ∧ ((xi u4 58 r5.toNatClampNeg) = a2 → w_VectorSolverModel_told_64 Q x3 r5 1 u4))))))))) (fun n u => Q (.inr n) u)) u1 ))) ∧ (¬ (xi u1 50 4) ≤ 0 → Q (.inl (some (.int 0))) u1))) (fun n u => Q (.inr n) u)) σ 
set_option maxRecDepth 20000 in
theorem sw_VectorSolverModel_told_78 {γ : xG1} {d b0 : Nat} {Q : xO → xS → Prop} {a3 : Int32} {a4 : Int32} {t0 : Int32} {σ : xS} (h : w_VectorSolverModel_told_78 Q a3 a4 t0 σ) : xJ (SHP, γ) Y_VectorSolverModel_told (d + 6) b0 78 [(0, .ref 50), (3, .int a3), (4, .int a4)] [.int t0] σ Q := by
  refine xJ.istore (o_VectorSolverModel_told 42 rfl) (by decide) ?_
  refine xJ.aload_n (o_VectorSolverModel_told 43 rfl) rfl ?_
  refine xJ.iload_n (o_VectorSolverModel_told 44 rfl) rfl ?_
  refine xJ.putI (o_VectorSolverModel_told 45 rfl) f_VectorSolverModel_258 rfl rfl rfl ?_
  replace h := h _ rfl
  refine xJ.iload (o_VectorSolverModel_told 46 rfl) rfl ?_
  exact xJ.ireturn (o_VectorSolverModel_told 47 rfl) rfl h
set_option maxRecDepth 20000 in
theorem sw_VectorSolverModel_told_73 {γ : xG1} {d b0 : Nat} {Q : xO → xS → Prop} {a3 : Int32} {a4 : Int32} {σ : xS} (h : w_VectorSolverModel_told_73 Q a3 a4 σ) : xJ (SHP, γ) Y_VectorSolverModel_told (d + 6) b0 73 [(0, .ref 50), (3, .int a3), (4, .int a4)] [] σ Q := by
  refine xJ.iconst (v := 1) (o_VectorSolverModel_told 39 rfl) (by decide) ?_
  refine xJ.goto (tgt := 78) (o_VectorSolverModel_told 40 rfl) (by decide) ?_
  exact xJ.lvs (by exact ⟨rfl, rfl, rfl, trivial⟩) (sw_VectorSolverModel_told_78 h)
set_option maxRecDepth 20000 in
theorem sw_VectorSolverModel_told_64 {γ : xG1} {d b0 : Nat} {Q : xO → xS → Prop} {a3 : Int32} {a4 : Int32} {t1 : Int32} {σ : xS} (h : w_VectorSolverModel_told_64 Q a3 a4 t1 σ) : xJ (SHP, γ) Y_VectorSolverModel_told (d + 6) b0 64 [(0, .ref 50), (3, .int a3), (4, .int a4)] [.int t1, .ref 50] σ Q := by
  refine xJ.bipush (v := 9) (o_VectorSolverModel_told 35 rfl) (by decide) ?_
  refine xJ.iload_n (o_VectorSolverModel_told 36 rfl) rfl ?_
  refine xJ.callV (Y' := Y_VectorSolverModel_want) (o_VectorSolverModel_told 37 rfl) m_VectorSolverModel_172 y_VectorSolverModel_want im_VectorSolverModel_want se_VectorSolverModel_want rfl rfl (s_VectorSolverModel_want h) rfl rfl (Nat.le_of_ble_eq_true rfl) (fun _ hx => by cases hx) (fun v u q => ?_) (fun n u q => q)
  obtain ⟨r, rfl, h⟩ := xqi_get q
  refine xJ.if_eq (tgt := 77) (o_VectorSolverModel_told 38 rfl) (by decide) (fun z => ?_) (fun z => ?_)
  · replace h := h.1 z
    refine xJ.iconst (v := 0) (o_VectorSolverModel_told 41 rfl) (by decide) ?_
    exact xJ.lvs (by exact ⟨rfl, rfl, rfl, trivial⟩) (sw_VectorSolverModel_told_78 h)
  · replace h := h.2 z
    exact xJ.lvs (by exact ⟨rfl, rfl, rfl, trivial⟩) (sw_VectorSolverModel_told_73 h)
set_option maxRecDepth 20000 in
theorem sw_VectorSolverModel_told_63 {γ : xG1} {d b0 : Nat} {Q : xO → xS → Prop} {a3 : Int32} {a4 : Int32} {σ : xS} (h : w_VectorSolverModel_told_63 Q a3 a4 σ) : xJ (SHP, γ) Y_VectorSolverModel_told (d + 6) b0 63 [(0, .ref 50), (3, .int a3), (4, .int a4)] [.ref 50] σ Q := by
  refine xJ.iconst (v := 0) (o_VectorSolverModel_told 34 rfl) (by decide) ?_
  exact xJ.lvs (by exact ⟨rfl, rfl, rfl, trivial⟩) (sw_VectorSolverModel_told_64 h)
set_option maxRecDepth 20000 in
theorem s_VectorSolverModel_told {γ : xG1} {d : Nat} {Q : xO → xS → Prop} {σ : xS} {a1 : Int32} {a2 : Int32} (h : wp_VectorSolverModel_told Q σ a1 a2) : xM (SHP, γ) Y_VectorSolverModel_told (d + 6) [.ref 50, .int a1, .int a2] σ Q := by
  refine xM.of (by decide) (Nat.le_of_ble_eq_true rfl) ?_
  refine xJ.aload_n (o_VectorSolverModel_told 0 rfl) rfl ?_
  refine xJ.callV (Y' := Y_VectorSolverModel_next) (o_VectorSolverModel_told 1 rfl) m_VectorSolverModel_176 y_VectorSolverModel_next im_VectorSolverModel_next se_VectorSolverModel_next rfl rfl (s_VectorSolverModel_next h) rfl rfl (Nat.le_of_ble_eq_true rfl) (fun _ hx => by cases hx) (fun v u q => ?_) (fun n u q => q)
  obtain ⟨rfl, h⟩ := xqv_get q
  refine xJ.aload_n (o_VectorSolverModel_told 2 rfl) rfl ?_
  refine xJ.getfield (o_VectorSolverModel_told 3 rfl) f_VectorSolverModel_166 rfl rfl ?_
  refine xJ.if_le (tgt := 13) (o_VectorSolverModel_told 4 rfl) (by decide) (fun z => ?_) (fun z => ?_)
  · replace h := h.1 z
    refine xJ.aload_n (o_VectorSolverModel_told 7 rfl) rfl ?_
    refine xJ.getfield (o_VectorSolverModel_told 8 rfl) f_VectorSolverModel_28 rfl rfl ?_
    refine xJ.aload_n (o_VectorSolverModel_told 9 rfl) rfl ?_
    refine xJ.getfield (o_VectorSolverModel_told 10 rfl) f_VectorSolverModel_169 rfl rfl ?_
    refine xJ.iaload (o_VectorSolverModel_told 11 rfl) rfl h.1 ?_
    replace h := h.2
    refine xJ.istore_n (o_VectorSolverModel_told 12 rfl) (by decide) ?_
    replace h := h _ rfl
    refine xJ.aload_n (o_VectorSolverModel_told 13 rfl) rfl ?_
    refine xJ.callV (Y' := Y_VectorSolverModel_term) (o_VectorSolverModel_told 14 rfl) m_VectorSolverModel_261 y_VectorSolverModel_term im_VectorSolverModel_term se_VectorSolverModel_term rfl rfl (s_VectorSolverModel_term h) rfl rfl (Nat.le_of_ble_eq_true rfl) (fun _ hx => by cases hx) (fun v u q => ?_) (fun n u q => q)
    obtain ⟨r, rfl, h⟩ := xqi_get q
    refine xJ.istore (o_VectorSolverModel_told 15 rfl) (by decide) ?_
    refine xJ.aload_n (o_VectorSolverModel_told 16 rfl) rfl ?_
    refine xJ.getfield (o_VectorSolverModel_told 17 rfl) f_VectorSolverModel_166 rfl rfl ?_
    refine xJ.if_gt (tgt := 73) (o_VectorSolverModel_told 18 rfl) (by decide) (fun z => ?_) (fun z => ?_)
    · replace h := h.1 z
      exact xJ.lvs (by exact ⟨rfl, rfl, rfl, trivial⟩) (sw_VectorSolverModel_told_73 h)
    · replace h := h.2 z
      refine xJ.aload_n (o_VectorSolverModel_told 19 rfl) rfl ?_
      refine xJ.aload_n (o_VectorSolverModel_told 20 rfl) rfl ?_
      refine xJ.getfield (o_VectorSolverModel_told 21 rfl) f_VectorSolverModel_41 rfl rfl ?_
      refine xJ.iload (o_VectorSolverModel_told 22 rfl) rfl ?_
      refine xJ.iaload (o_VectorSolverModel_told 23 rfl) rfl h.1 ?_
      replace h := h.2
      refine xJ.iload_n (o_VectorSolverModel_told 24 rfl) rfl ?_
      refine xJ.icmp_ne (tgt := 63) (o_VectorSolverModel_told 25 rfl) (by decide) (fun z => ?_) (fun z => ?_)
      · replace h := h.1 z
        exact xJ.lvs (by exact ⟨rfl, rfl, rfl, trivial⟩) (sw_VectorSolverModel_told_63 h)
      · replace h := h.2 z
        refine xJ.aload_n (o_VectorSolverModel_told 26 rfl) rfl ?_
        refine xJ.getfield (o_VectorSolverModel_told 27 rfl) f_VectorSolverModel_44 rfl rfl ?_
        refine xJ.iload (o_VectorSolverModel_told 28 rfl) rfl ?_
        refine xJ.iaload (o_VectorSolverModel_told 29 rfl) rfl h.1 ?_
        replace h := h.2
        refine xJ.iload_n (o_VectorSolverModel_told 30 rfl) rfl ?_
        refine xJ.icmp_ne (tgt := 63) (o_VectorSolverModel_told 31 rfl) (by decide) (fun z => ?_) (fun z => ?_)
        · replace h := h.1 z
          exact xJ.lvs (by exact ⟨rfl, rfl, rfl, trivial⟩) (sw_VectorSolverModel_told_63 h)
        · replace h := h.2 z
          refine xJ.iconst (v := 1) (o_VectorSolverModel_told 32 rfl) (by decide) ?_
          refine xJ.goto (tgt := 64) (o_VectorSolverModel_told 33 rfl) (by decide) ?_
          exact xJ.lvs (by exact ⟨rfl, rfl, rfl, trivial⟩) (sw_VectorSolverModel_told_64 h)
  · replace h := h.2 z
    refine xJ.iconst (v := 0) (o_VectorSolverModel_told 5 rfl) (by decide) ?_
    exact xJ.ireturn (o_VectorSolverModel_told 6 rfl) rfl h
def wp_VectorSolverModel_used (Q : xO → xS → Prop) (σ : xS)  : Prop :=
  ((¬ (xi σ 50 23) = 0 → (vp_in ((xi σ 50 23) - 1) 501 ∧ Q (.inl (some (.int (xi σ 66 ((xi σ 50 23) - 1).toNatClampNeg)))) σ)) ∧ ((xi σ 50 23) = 0 → Q (.inl (some (.int 0))) σ))
set_option maxRecDepth 20000 in
theorem s_VectorSolverModel_used {γ : xG1} {d : Nat} {Q : xO → xS → Prop} {σ : xS}  (h : wp_VectorSolverModel_used Q σ ) : xM (SHP, γ) Y_VectorSolverModel_used (d + 0) [.ref 50] σ Q := by
  refine xM.of (by decide) (Nat.le_of_ble_eq_true rfl) ?_
  refine xJ.aload_n (o_VectorSolverModel_used 0 rfl) rfl ?_
  refine xJ.getfield (o_VectorSolverModel_used 1 rfl) f_VectorSolverModel_183 rfl rfl ?_
  refine xJ.if_ne (tgt := 11) (o_VectorSolverModel_used 2 rfl) (by decide) (fun z => ?_) (fun z => ?_)
  · replace h := h.1 z
    refine xJ.aload_n (o_VectorSolverModel_used 5 rfl) rfl ?_
    refine xJ.getfield (o_VectorSolverModel_used 6 rfl) f_VectorSolverModel_70 rfl rfl ?_
    refine xJ.aload_n (o_VectorSolverModel_used 7 rfl) rfl ?_
    refine xJ.getfield (o_VectorSolverModel_used 8 rfl) f_VectorSolverModel_183 rfl rfl ?_
    refine xJ.iconst (v := 1) (o_VectorSolverModel_used 9 rfl) (by decide) ?_
    refine xJ.isub (o_VectorSolverModel_used 10 rfl) ?_
    refine xJ.iaload (o_VectorSolverModel_used 11 rfl) rfl h.1 ?_
    replace h := h.2
    exact xJ.ireturn (o_VectorSolverModel_used 12 rfl) rfl h
  · replace h := h.2 z
    refine xJ.iconst (v := 0) (o_VectorSolverModel_used 3 rfl) (by decide) ?_
    refine xJ.goto (tgt := 22) (o_VectorSolverModel_used 4 rfl) (by decide) ?_
    exact xJ.ireturn (o_VectorSolverModel_used 12 rfl) rfl h
def w_VectorSolverModel_addName_13 (Q : xO → xS → Prop) : Nat → Int32 → Int32 → Int32 → Int32 → xS → Prop
  | 0 => fun _ _ _ _ _ => False
  | n + 1 => fun a1 a2 a3 a4 σ =>
    (vp_in a1 65537 ∧ (((xi σ 54 a1.toNatClampNeg) ≤ a4 → (vp_in a1 65537 ∧ (vp_in a1 65537 ∧ (vp_in (xi σ 50 23) 501 ∧ (∀ s4 : xS, s4 = xpi σ 66 (xi σ 50 23).toNatClampNeg ((a3 + (xi σ 54 a1.toNatClampNeg)) - (xi σ 53 a1.toNatClampNeg)) → (vp_in (xi s4 50 23) 500 ∧ (∀ s5 : xS, s5 = xpi s4 67 (xi s4 50 23).toNatClampNeg a2 → (∀ s6 : xS, s6 = xpi s5 50 23 ((xi s5 50 23) + 1) → Q (.inl (some (.int ((xi s6 50 23) - 1)))) s6)))))))) ∧ (¬ (xi σ 54 a1.toNatClampNeg) ≤ a4 → (vp_in a1 65537 ∧ (vp_in a4 65536 ∧ (vp_in ((a3 + a4) - (xi σ 53 a1.toNatClampNeg)) 65536 ∧ (∀ s7 : xS, s7 = xpi σ 68 ((a3 + a4) - (xi σ 53 a1.toNatClampNeg)).toNatClampNeg (vp_nar .byte (xi σ 51 a4.toNatClampNeg)) → (∀ x8 : Int32, x8 = a4 + 1 → w_VectorSolverModel_addName_13 Q n a1 a2 a3 x8 s7))))))))
def wp_VectorSolverModel_addName (Q : xO → xS → Prop) (σ : xS) (a1 : Int32) (a2 : Int32) : Prop :=
  wp_VectorSolverModel_used (xqi (fun r2 u1 => (vp_in a1 65537 ∧ (∀ x3 : Int32, x3 = (xi u1 53 a1.toNatClampNeg) → ∃ m, w_VectorSolverModel_addName_13 Q m a1 a2 r2 x3 u1))) (fun n u => Q (.inr n) u)) σ 
set_option maxRecDepth 20000 in
theorem sw_VectorSolverModel_addName_13 {γ : xG1} {d b0 : Nat} {Q : xO → xS → Prop} : ∀ (n : Nat) (a1 : Int32) (a2 : Int32) (a3 : Int32) (a4 : Int32) (σ : xS), w_VectorSolverModel_addName_13 Q n a1 a2 a3 a4 σ → xJ (SHP, γ) Y_VectorSolverModel_addName (d + 1) b0 13 [(0, .ref 50), (1, .int a1), (2, .int a2), (3, .int a3), (4, .int a4)] [] σ Q := by
  intro n
  induction n with
  | zero => intro a1 a2 a3 a4 σ h; exact h.elim
  | succ n ih =>
    intro a1 a2 a3 a4 σ h
    refine xJ.iload (o_VectorSolverModel_addName 8 rfl) rfl ?_
    refine xJ.aload_n (o_VectorSolverModel_addName 9 rfl) rfl ?_
    refine xJ.getfield (o_VectorSolverModel_addName 10 rfl) f_VectorSolverModel_32 rfl rfl ?_
    refine xJ.iload_n (o_VectorSolverModel_addName 11 rfl) rfl ?_
    refine xJ.iaload (o_VectorSolverModel_addName 12 rfl) rfl h.1 ?_
    replace h := h.2
    refine xJ.icmp_ge (tgt := 53) (o_VectorSolverModel_addName 13 rfl) (by decide) (fun z => ?_) (fun z => ?_)
    · replace h := h.1 z
      refine xJ.aload_n (o_VectorSolverModel_addName 31 rfl) rfl ?_
      refine xJ.getfield (o_VectorSolverModel_addName 32 rfl) f_VectorSolverModel_70 rfl rfl ?_
      refine xJ.aload_n (o_VectorSolverModel_addName 33 rfl) rfl ?_
      refine xJ.getfield (o_VectorSolverModel_addName 34 rfl) f_VectorSolverModel_183 rfl rfl ?_
      refine xJ.iload_n (o_VectorSolverModel_addName 35 rfl) rfl ?_
      refine xJ.aload_n (o_VectorSolverModel_addName 36 rfl) rfl ?_
      refine xJ.getfield (o_VectorSolverModel_addName 37 rfl) f_VectorSolverModel_32 rfl rfl ?_
      refine xJ.iload_n (o_VectorSolverModel_addName 38 rfl) rfl ?_
      refine xJ.iaload (o_VectorSolverModel_addName 39 rfl) rfl h.1 ?_
      replace h := h.2
      refine xJ.iadd (o_VectorSolverModel_addName 40 rfl) ?_
      refine xJ.aload_n (o_VectorSolverModel_addName 41 rfl) rfl ?_
      refine xJ.getfield (o_VectorSolverModel_addName 42 rfl) f_VectorSolverModel_28 rfl rfl ?_
      refine xJ.iload_n (o_VectorSolverModel_addName 43 rfl) rfl ?_
      refine xJ.iaload (o_VectorSolverModel_addName 44 rfl) rfl h.1 ?_
      replace h := h.2
      refine xJ.isub (o_VectorSolverModel_addName 45 rfl) ?_
      refine xJ.iastore (o_VectorSolverModel_addName 46 rfl) rfl h.1 ?_
      replace h := h.2
      replace h := h _ rfl
      refine xJ.aload_n (o_VectorSolverModel_addName 47 rfl) rfl ?_
      refine xJ.getfield (o_VectorSolverModel_addName 48 rfl) f_VectorSolverModel_73 rfl rfl ?_
      refine xJ.aload_n (o_VectorSolverModel_addName 49 rfl) rfl ?_
      refine xJ.getfield (o_VectorSolverModel_addName 50 rfl) f_VectorSolverModel_183 rfl rfl ?_
      refine xJ.iload_n (o_VectorSolverModel_addName 51 rfl) rfl ?_
      refine xJ.iastore (o_VectorSolverModel_addName 52 rfl) rfl h.1 ?_
      replace h := h.2
      replace h := h _ rfl
      refine xJ.aload_n (o_VectorSolverModel_addName 53 rfl) rfl ?_
      refine xJ.dup (o_VectorSolverModel_addName 54 rfl) rfl ?_
      refine xJ.getfield (o_VectorSolverModel_addName 55 rfl) f_VectorSolverModel_183 rfl rfl ?_
      refine xJ.iconst (v := 1) (o_VectorSolverModel_addName 56 rfl) (by decide) ?_
      refine xJ.iadd (o_VectorSolverModel_addName 57 rfl) ?_
      refine xJ.putI (o_VectorSolverModel_addName 58 rfl) f_VectorSolverModel_183 rfl rfl rfl ?_
      replace h := h _ rfl
      refine xJ.aload_n (o_VectorSolverModel_addName 59 rfl) rfl ?_
      refine xJ.getfield (o_VectorSolverModel_addName 60 rfl) f_VectorSolverModel_183 rfl rfl ?_
      refine xJ.iconst (v := 1) (o_VectorSolverModel_addName 61 rfl) (by decide) ?_
      refine xJ.isub (o_VectorSolverModel_addName 62 rfl) ?_
      exact xJ.ireturn (o_VectorSolverModel_addName 63 rfl) rfl h
    · replace h := h.2 z
      refine xJ.aload_n (o_VectorSolverModel_addName 14 rfl) rfl ?_
      refine xJ.getfield (o_VectorSolverModel_addName 15 rfl) f_VectorSolverModel_76 rfl rfl ?_
      refine xJ.iload_n (o_VectorSolverModel_addName 16 rfl) rfl ?_
      refine xJ.iload (o_VectorSolverModel_addName 17 rfl) rfl ?_
      refine xJ.iadd (o_VectorSolverModel_addName 18 rfl) ?_
      refine xJ.aload_n (o_VectorSolverModel_addName 19 rfl) rfl ?_
      refine xJ.getfield (o_VectorSolverModel_addName 20 rfl) f_VectorSolverModel_28 rfl rfl ?_
      refine xJ.iload_n (o_VectorSolverModel_addName 21 rfl) rfl ?_
      refine xJ.iaload (o_VectorSolverModel_addName 22 rfl) rfl h.1 ?_
      replace h := h.2
      refine xJ.isub (o_VectorSolverModel_addName 23 rfl) ?_
      refine xJ.aload_n (o_VectorSolverModel_addName 24 rfl) rfl ?_
      refine xJ.getfield (o_VectorSolverModel_addName 25 rfl) f_VectorSolverModel_16 rfl rfl ?_
      refine xJ.iload (o_VectorSolverModel_addName 26 rfl) rfl ?_
      refine xJ.baload (o_VectorSolverModel_addName 27 rfl) rfl h.1 ?_
      replace h := h.2
      refine xJ.bastore (o_VectorSolverModel_addName 28 rfl) rfl h.1 ?_
      replace h := h.2
      replace h := h _ rfl
      refine xJ.iincC (w := 1) (o_VectorSolverModel_addName 29 rfl) rfl (by decide) (by decide) ?_
      replace h := h _ rfl
      refine xJ.goto (tgt := 13) (o_VectorSolverModel_addName 30 rfl) (by decide) ?_
      exact xJ.lvs (by exact ⟨rfl, rfl, rfl, rfl, rfl, trivial⟩) (ih _ _ _ _ _ h)
set_option maxRecDepth 20000 in
theorem s_VectorSolverModel_addName {γ : xG1} {d : Nat} {Q : xO → xS → Prop} {σ : xS} {a1 : Int32} {a2 : Int32} (h : wp_VectorSolverModel_addName Q σ a1 a2) : xM (SHP, γ) Y_VectorSolverModel_addName (d + 1) [.ref 50, .int a1, .int a2] σ Q := by
  refine xM.of (by decide) (Nat.le_of_ble_eq_true rfl) ?_
  refine xJ.aload_n (o_VectorSolverModel_addName 0 rfl) rfl ?_
  refine xJ.callV (Y' := Y_VectorSolverModel_used) (o_VectorSolverModel_addName 1 rfl) m_VectorSolverModel_200 y_VectorSolverModel_used im_VectorSolverModel_used se_VectorSolverModel_used rfl rfl (s_VectorSolverModel_used h) rfl rfl (Nat.le_of_ble_eq_true rfl) (fun _ hx => by cases hx) (fun v u q => ?_) (fun n u q => q)
  obtain ⟨r, rfl, h⟩ := xqi_get q
  refine xJ.istore_n (o_VectorSolverModel_addName 2 rfl) (by decide) ?_
  refine xJ.aload_n (o_VectorSolverModel_addName 3 rfl) rfl ?_
  refine xJ.getfield (o_VectorSolverModel_addName 4 rfl) f_VectorSolverModel_28 rfl rfl ?_
  refine xJ.iload_n (o_VectorSolverModel_addName 5 rfl) rfl ?_
  refine xJ.iaload (o_VectorSolverModel_addName 6 rfl) rfl h.1 ?_
  replace h := h.2
  refine xJ.istore (o_VectorSolverModel_addName 7 rfl) (by decide) ?_
  replace h := h _ rfl
  obtain ⟨m, h⟩ := h
  exact xJ.lvs (by exact ⟨rfl, rfl, rfl, rfl, rfl, trivial⟩) (sw_VectorSolverModel_addName_13 m _ _ _ _ _ h)
def w_VectorSolverModel_readSort_237 (Q : xO → xS → Prop) (t0 : Int32) (σ : xS) : Prop :=
  wp_VectorSolverModel_needNumber (xqi (fun r10 u9 => (∀ s11 : xS, s11 = xpi u9 50 54 r10 → wp_VectorSolverModel_need (xqi (fun r13 u12 => Q (.inl none) u12) (fun n u => Q (.inr n) u)) s11 2)) (fun n u => Q (.inr n) u)) σ 1 64
def w_VectorSolverModel_readSort_236 (Q : xO → xS → Prop) (σ : xS) : Prop :=
  w_VectorSolverModel_readSort_237 Q 0 σ
def w_VectorSolverModel_readSort_217 (Q : xO → xS → Prop) (t1 : Int32) (σ : xS) : Prop :=
  wp_VectorSolverModel_must (xqi (fun r8 u7 => ((r8 = 0 → w_VectorSolverModel_readSort_236 Q  u7) ∧ (¬ r8 = 0 → wp_VectorSolverModel_needWord (xqi (fun r15 u14 => ((r15 = 0 → w_VectorSolverModel_readSort_236 Q  u14) ∧ (¬ r15 = 0 → w_VectorSolverModel_readSort_237 Q 1 u14))) (fun n u => Q (.inr n) u)) u7 44))) (fun n u => Q (.inr n) u)) σ t1
def w_VectorSolverModel_readSort_161 (Q : xO → xS → Prop) (t0 : Int32) (σ : xS) : Prop :=
  wp_VectorSolverModel_needNumber (xqi (fun r24 u23 => (∀ s25 : xS, s25 = xpi u23 50 54 r24 → wp_VectorSolverModel_need (xqi (fun r27 u26 => ((r27 = 0 → Q (.inl none) u26) ∧ (¬ r27 = 0 → wp_VectorSolverModel_need (xqi (fun r29 u28 => ((r29 = 0 → Q (.inl none) u28) ∧ (¬ r29 = 0 → Q (.inl none) u28))) (fun n u => Q (.inr n) u)) u26 2))) (fun n u => Q (.inr n) u)) s25 2)) (fun n u => Q (.inr n) u)) σ 1 64
def w_VectorSolverModel_readSort_160 (Q : xO → xS → Prop) (σ : xS) : Prop :=
  w_VectorSolverModel_readSort_161 Q 0 σ
def w_VectorSolverModel_readSort_109 (Q : xO → xS → Prop) (t0 : Int32) (σ : xS) : Prop :=
  wp_VectorSolverModel_needNumber (xqi (fun r19 u18 => (∀ s20 : xS, s20 = xpi u18 50 53 r19 → wp_VectorSolverModel_need (xqi (fun r22 u21 => ((r22 = 0 → w_VectorSolverModel_readSort_160 Q  u21) ∧ (¬ r22 = 0 → wp_VectorSolverModel_need (xqi (fun r31 u30 => ((r31 = 0 → w_VectorSolverModel_readSort_160 Q  u30) ∧ (¬ r31 = 0 → wp_VectorSolverModel_needWord (xqi (fun r33 u32 => ((r33 = 0 → w_VectorSolverModel_readSort_160 Q  u32) ∧ (¬ r33 = 0 → wp_VectorSolverModel_needWord (xqi (fun r35 u34 => ((r35 = 0 → w_VectorSolverModel_readSort_160 Q  u34) ∧ (¬ r35 = 0 → w_VectorSolverModel_readSort_161 Q 1 u34))) (fun n u => Q (.inr n) u)) u32 44))) (fun n u => Q (.inr n) u)) u30 43))) (fun n u => Q (.inr n) u)) u21 1))) (fun n u => Q (.inr n) u)) s20 2)) (fun n u => Q (.inr n) u)) σ 1 6
def w_VectorSolverModel_readSort_108 (Q : xO → xS → Prop) (σ : xS) : Prop :=
  w_VectorSolverModel_readSort_109 Q 0 σ
def w_VectorSolverModel_readSort_73 (Q : xO → xS → Prop) (t0 : Int32) (σ : xS) : Prop :=
  ((t0 = 0 → (vp_in (xi σ 50 10) 65537 ∧ ((¬ (xi σ 55 (xi σ 50 10).toNatClampNeg) = 43 → w_VectorSolverModel_readSort_217 Q 0 σ) ∧ ((xi σ 55 (xi σ 50 10).toNatClampNeg) = 43 → w_VectorSolverModel_readSort_217 Q 1 σ)))) ∧ (¬ t0 = 0 → wp_VectorSolverModel_need (xqi (fun r17 u16 => ((r17 = 0 → w_VectorSolverModel_readSort_108 Q  u16) ∧ (¬ r17 = 0 → wp_VectorSolverModel_needWord (xqi (fun r37 u36 => ((r37 = 0 → w_VectorSolverModel_readSort_108 Q  u36) ∧ (¬ r37 = 0 → wp_VectorSolverModel_needWord (xqi (fun r39 u38 => ((r39 = 0 → w_VectorSolverModel_readSort_108 Q  u38) ∧ (¬ r39 = 0 → w_VectorSolverModel_readSort_109 Q 1 u38))) (fun n u => Q (.inr n) u)) u36 44))) (fun n u => Q (.inr n) u)) u16 43))) (fun n u => Q (.inr n) u)) σ 1))
def w_VectorSolverModel_readSort_43 (Q : xO → xS → Prop) (t1 : Int32) (σ : xS) : Prop :=
  wp_VectorSolverModel_must (xqi (fun r4 u3 => ((¬ r4 = 0 → wp_VectorSolverModel_next (xqv (fun u5 => (vp_in (xi u5 50 10) 65537 ∧ ((¬ (xi u5 55 (xi u5 50 10).toNatClampNeg) = 45 → w_VectorSolverModel_readSort_73 Q 0 u5) ∧ ((xi u5 55 (xi u5 50 10).toNatClampNeg) = 45 → w_VectorSolverModel_readSort_73 Q 1 u5)))) (fun n u => Q (.inr n) u)) u3 ) ∧ (r4 = 0 → Q (.inl none) u3))) (fun n u => Q (.inr n) u)) σ t1
def wp_VectorSolverModel_readSort (Q : xO → xS → Prop) (σ : xS)  : Prop :=
  (∀ s1 : xS, s1 = xpi σ 50 53 0 → (∀ s2 : xS, s2 = xpi s1 50 54 0 → (vp_in (xi s2 50 10) 65537 ∧ (((xi s2 55 (xi s2 50 10).toNatClampNeg) = 42 → Q (.inl none) s2) ∧ (¬ (xi s2 55 (xi s2 50 10).toNatClampNeg) = 42 → (vp_in (xi s2 50 10) 65537 ∧ ((¬ (xi s2 52 (xi s2 50 10).toNatClampNeg) = 1 → w_VectorSolverModel_readSort_43 Q 0 s2) ∧ ((xi s2 52 (xi s2 50 10).toNatClampNeg) = 1 → w_VectorSolverModel_readSort_43 Q 1 s2))))))))
set_option maxRecDepth 20000 in
theorem sw_VectorSolverModel_readSort_237 {γ : xG1} {d b0 : Nat} {Q : xO → xS → Prop} {t0 : Int32} {σ : xS} (h : w_VectorSolverModel_readSort_237 Q t0 σ) : xJ (SHP, γ) Y_VectorSolverModel_readSort (d + 4) b0 237 [(0, .ref 50)] [.int t0] σ Q := by
  refine xJ.istore_n (o_VectorSolverModel_readSort 123 rfl) (by decide) ?_
  refine xJ.aload_n (o_VectorSolverModel_readSort 124 rfl) rfl ?_
  refine xJ.aload_n (o_VectorSolverModel_readSort 125 rfl) rfl ?_
  refine xJ.iconst (v := 1) (o_VectorSolverModel_readSort 126 rfl) (by decide) ?_
  refine xJ.ldc2 (v := 64) (o_VectorSolverModel_readSort 127 rfl) k_VectorSolverModel_218 ?_
  refine xJ.callV (Y' := Y_VectorSolverModel_needNumber) (o_VectorSolverModel_readSort 128 rfl) m_VectorSolverModel_214 y_VectorSolverModel_needNumber im_VectorSolverModel_needNumber se_VectorSolverModel_needNumber rfl rfl (s_VectorSolverModel_needNumber h) rfl rfl (Nat.le_of_ble_eq_true rfl) (fun _ hx => by cases hx) (fun v u q => ?_) (fun n u q => q)
  obtain ⟨r, rfl, h⟩ := xqi_get q
  refine xJ.putI (o_VectorSolverModel_readSort 129 rfl) f_VectorSolverModel_206 rfl rfl rfl ?_
  replace h := h _ rfl
  refine xJ.aload_n (o_VectorSolverModel_readSort 130 rfl) rfl ?_
  refine xJ.iconst (v := 2) (o_VectorSolverModel_readSort 131 rfl) (by decide) ?_
  refine xJ.callV (Y' := Y_VectorSolverModel_need) (o_VectorSolverModel_readSort 132 rfl) m_VectorSolverModel_186 y_VectorSolverModel_need im_VectorSolverModel_need se_VectorSolverModel_need rfl rfl (s_VectorSolverModel_need h) rfl rfl (Nat.le_of_ble_eq_true rfl) (fun _ hx => by cases hx) (fun v u q => ?_) (fun n u q => q)
  obtain ⟨r, rfl, h⟩ := xqi_get q
  refine xJ.istore_n (o_VectorSolverModel_readSort 133 rfl) (by decide) ?_
  exact xJ.return_ (o_VectorSolverModel_readSort 134 rfl) rfl h
set_option maxRecDepth 20000 in
theorem sw_VectorSolverModel_readSort_236 {γ : xG1} {d b0 : Nat} {Q : xO → xS → Prop} {σ : xS} (h : w_VectorSolverModel_readSort_236 Q  σ) : xJ (SHP, γ) Y_VectorSolverModel_readSort (d + 4) b0 236 [(0, .ref 50)] [] σ Q := by
  refine xJ.iconst (v := 0) (o_VectorSolverModel_readSort 122 rfl) (by decide) ?_
  exact xJ.lvs (by exact ⟨rfl, trivial⟩) (sw_VectorSolverModel_readSort_237 h)
set_option maxRecDepth 20000 in
theorem sw_VectorSolverModel_readSort_217 {γ : xG1} {d b0 : Nat} {Q : xO → xS → Prop} {t1 : Int32} {σ : xS} (h : w_VectorSolverModel_readSort_217 Q t1 σ) : xJ (SHP, γ) Y_VectorSolverModel_readSort (d + 4) b0 217 [(0, .ref 50)] [.int t1, .ref 50] σ Q := by
  refine xJ.callV (Y' := Y_VectorSolverModel_must) (o_VectorSolverModel_readSort 114 rfl) m_VectorSolverModel_179 y_VectorSolverModel_must im_VectorSolverModel_must se_VectorSolverModel_must rfl rfl (s_VectorSolverModel_must h) rfl rfl (Nat.le_of_ble_eq_true rfl) (fun _ hx => by cases hx) (fun v u q => ?_) (fun n u q => q)
  obtain ⟨r, rfl, h⟩ := xqi_get q
  refine xJ.if_eq (tgt := 236) (o_VectorSolverModel_readSort 115 rfl) (by decide) (fun z => ?_) (fun z => ?_)
  · replace h := h.1 z
    exact xJ.lvs (by exact ⟨rfl, trivial⟩) (sw_VectorSolverModel_readSort_236 h)
  · replace h := h.2 z
    refine xJ.aload_n (o_VectorSolverModel_readSort 116 rfl) rfl ?_
    refine xJ.bipush (v := 44) (o_VectorSolverModel_readSort 117 rfl) (by decide) ?_
    refine xJ.callV (Y' := Y_VectorSolverModel_needWord) (o_VectorSolverModel_readSort 118 rfl) m_VectorSolverModel_209 y_VectorSolverModel_needWord im_VectorSolverModel_needWord se_VectorSolverModel_needWord rfl rfl (s_VectorSolverModel_needWord h) rfl rfl (Nat.le_of_ble_eq_true rfl) (fun _ hx => by cases hx) (fun v u q => ?_) (fun n u q => q)
    obtain ⟨r, rfl, h⟩ := xqi_get q
    refine xJ.if_eq (tgt := 236) (o_VectorSolverModel_readSort 119 rfl) (by decide) (fun z => ?_) (fun z => ?_)
    · replace h := h.1 z
      exact xJ.lvs (by exact ⟨rfl, trivial⟩) (sw_VectorSolverModel_readSort_236 h)
    · replace h := h.2 z
      refine xJ.iconst (v := 1) (o_VectorSolverModel_readSort 120 rfl) (by decide) ?_
      refine xJ.goto (tgt := 237) (o_VectorSolverModel_readSort 121 rfl) (by decide) ?_
      exact xJ.lvs (by exact ⟨rfl, trivial⟩) (sw_VectorSolverModel_readSort_237 h)
set_option maxRecDepth 20000 in
theorem sw_VectorSolverModel_readSort_161 {γ : xG1} {d b0 : Nat} {Q : xO → xS → Prop} {t0 : Int32} {σ : xS} (h : w_VectorSolverModel_readSort_161 Q t0 σ) : xJ (SHP, γ) Y_VectorSolverModel_readSort (d + 4) b0 161 [(0, .ref 50)] [.int t0] σ Q := by
  refine xJ.istore_n (o_VectorSolverModel_readSort 83 rfl) (by decide) ?_
  refine xJ.aload_n (o_VectorSolverModel_readSort 84 rfl) rfl ?_
  refine xJ.aload_n (o_VectorSolverModel_readSort 85 rfl) rfl ?_
  refine xJ.iconst (v := 1) (o_VectorSolverModel_readSort 86 rfl) (by decide) ?_
  refine xJ.ldc2 (v := 64) (o_VectorSolverModel_readSort 87 rfl) k_VectorSolverModel_218 ?_
  refine xJ.callV (Y' := Y_VectorSolverModel_needNumber) (o_VectorSolverModel_readSort 88 rfl) m_VectorSolverModel_214 y_VectorSolverModel_needNumber im_VectorSolverModel_needNumber se_VectorSolverModel_needNumber rfl rfl (s_VectorSolverModel_needNumber h) rfl rfl (Nat.le_of_ble_eq_true rfl) (fun _ hx => by cases hx) (fun v u q => ?_) (fun n u q => q)
  obtain ⟨r, rfl, h⟩ := xqi_get q
  refine xJ.putI (o_VectorSolverModel_readSort 89 rfl) f_VectorSolverModel_206 rfl rfl rfl ?_
  replace h := h _ rfl
  refine xJ.aload_n (o_VectorSolverModel_readSort 90 rfl) rfl ?_
  refine xJ.iconst (v := 2) (o_VectorSolverModel_readSort 91 rfl) (by decide) ?_
  refine xJ.callV (Y' := Y_VectorSolverModel_need) (o_VectorSolverModel_readSort 92 rfl) m_VectorSolverModel_186 y_VectorSolverModel_need im_VectorSolverModel_need se_VectorSolverModel_need rfl rfl (s_VectorSolverModel_need h) rfl rfl (Nat.le_of_ble_eq_true rfl) (fun _ hx => by cases hx) (fun v u q => ?_) (fun n u q => q)
  obtain ⟨r, rfl, h⟩ := xqi_get q
  refine xJ.if_eq (tgt := 194) (o_VectorSolverModel_readSort 93 rfl) (by decide) (fun z => ?_) (fun z => ?_)
  · replace h := h.1 z
    refine xJ.iconst (v := 0) (o_VectorSolverModel_readSort 100 rfl) (by decide) ?_
    refine xJ.istore_n (o_VectorSolverModel_readSort 101 rfl) (by decide) ?_
    exact xJ.return_ (o_VectorSolverModel_readSort 102 rfl) rfl h
  · replace h := h.2 z
    refine xJ.aload_n (o_VectorSolverModel_readSort 94 rfl) rfl ?_
    refine xJ.iconst (v := 2) (o_VectorSolverModel_readSort 95 rfl) (by decide) ?_
    refine xJ.callV (Y' := Y_VectorSolverModel_need) (o_VectorSolverModel_readSort 96 rfl) m_VectorSolverModel_186 y_VectorSolverModel_need im_VectorSolverModel_need se_VectorSolverModel_need rfl rfl (s_VectorSolverModel_need h) rfl rfl (Nat.le_of_ble_eq_true rfl) (fun _ hx => by cases hx) (fun v u q => ?_) (fun n u q => q)
    obtain ⟨r, rfl, h⟩ := xqi_get q
    refine xJ.if_eq (tgt := 194) (o_VectorSolverModel_readSort 97 rfl) (by decide) (fun z => ?_) (fun z => ?_)
    · replace h := h.1 z
      refine xJ.iconst (v := 0) (o_VectorSolverModel_readSort 100 rfl) (by decide) ?_
      refine xJ.istore_n (o_VectorSolverModel_readSort 101 rfl) (by decide) ?_
      exact xJ.return_ (o_VectorSolverModel_readSort 102 rfl) rfl h
    · replace h := h.2 z
      refine xJ.iconst (v := 1) (o_VectorSolverModel_readSort 98 rfl) (by decide) ?_
      refine xJ.goto (tgt := 195) (o_VectorSolverModel_readSort 99 rfl) (by decide) ?_
      refine xJ.istore_n (o_VectorSolverModel_readSort 101 rfl) (by decide) ?_
      exact xJ.return_ (o_VectorSolverModel_readSort 102 rfl) rfl h
set_option maxRecDepth 20000 in
theorem sw_VectorSolverModel_readSort_160 {γ : xG1} {d b0 : Nat} {Q : xO → xS → Prop} {σ : xS} (h : w_VectorSolverModel_readSort_160 Q  σ) : xJ (SHP, γ) Y_VectorSolverModel_readSort (d + 4) b0 160 [(0, .ref 50)] [] σ Q := by
  refine xJ.iconst (v := 0) (o_VectorSolverModel_readSort 82 rfl) (by decide) ?_
  exact xJ.lvs (by exact ⟨rfl, trivial⟩) (sw_VectorSolverModel_readSort_161 h)
set_option maxRecDepth 20000 in
theorem sw_VectorSolverModel_readSort_109 {γ : xG1} {d b0 : Nat} {Q : xO → xS → Prop} {t0 : Int32} {σ : xS} (h : w_VectorSolverModel_readSort_109 Q t0 σ) : xJ (SHP, γ) Y_VectorSolverModel_readSort (d + 4) b0 109 [(0, .ref 50)] [.int t0] σ Q := by
  refine xJ.istore_n (o_VectorSolverModel_readSort 57 rfl) (by decide) ?_
  refine xJ.aload_n (o_VectorSolverModel_readSort 58 rfl) rfl ?_
  refine xJ.aload_n (o_VectorSolverModel_readSort 59 rfl) rfl ?_
  refine xJ.iconst (v := 1) (o_VectorSolverModel_readSort 60 rfl) (by decide) ?_
  refine xJ.ldc2 (v := 6) (o_VectorSolverModel_readSort 61 rfl) k_VectorSolverModel_212 ?_
  refine xJ.callV (Y' := Y_VectorSolverModel_needNumber) (o_VectorSolverModel_readSort 62 rfl) m_VectorSolverModel_214 y_VectorSolverModel_needNumber im_VectorSolverModel_needNumber se_VectorSolverModel_needNumber rfl rfl (s_VectorSolverModel_needNumber h) rfl rfl (Nat.le_of_ble_eq_true rfl) (fun _ hx => by cases hx) (fun v u q => ?_) (fun n u q => q)
  obtain ⟨r, rfl, h⟩ := xqi_get q
  refine xJ.putI (o_VectorSolverModel_readSort 63 rfl) f_VectorSolverModel_203 rfl rfl rfl ?_
  replace h := h _ rfl
  refine xJ.aload_n (o_VectorSolverModel_readSort 64 rfl) rfl ?_
  refine xJ.iconst (v := 2) (o_VectorSolverModel_readSort 65 rfl) (by decide) ?_
  refine xJ.callV (Y' := Y_VectorSolverModel_need) (o_VectorSolverModel_readSort 66 rfl) m_VectorSolverModel_186 y_VectorSolverModel_need im_VectorSolverModel_need se_VectorSolverModel_need rfl rfl (s_VectorSolverModel_need h) rfl rfl (Nat.le_of_ble_eq_true rfl) (fun _ hx => by cases hx) (fun v u q => ?_) (fun n u q => q)
  obtain ⟨r, rfl, h⟩ := xqi_get q
  refine xJ.if_eq (tgt := 160) (o_VectorSolverModel_readSort 67 rfl) (by decide) (fun z => ?_) (fun z => ?_)
  · replace h := h.1 z
    exact xJ.lvs (by exact ⟨rfl, trivial⟩) (sw_VectorSolverModel_readSort_160 h)
  · replace h := h.2 z
    refine xJ.aload_n (o_VectorSolverModel_readSort 68 rfl) rfl ?_
    refine xJ.iconst (v := 1) (o_VectorSolverModel_readSort 69 rfl) (by decide) ?_
    refine xJ.callV (Y' := Y_VectorSolverModel_need) (o_VectorSolverModel_readSort 70 rfl) m_VectorSolverModel_186 y_VectorSolverModel_need im_VectorSolverModel_need se_VectorSolverModel_need rfl rfl (s_VectorSolverModel_need h) rfl rfl (Nat.le_of_ble_eq_true rfl) (fun _ hx => by cases hx) (fun v u q => ?_) (fun n u q => q)
    obtain ⟨r, rfl, h⟩ := xqi_get q
    refine xJ.if_eq (tgt := 160) (o_VectorSolverModel_readSort 71 rfl) (by decide) (fun z => ?_) (fun z => ?_)
    · replace h := h.1 z
      exact xJ.lvs (by exact ⟨rfl, trivial⟩) (sw_VectorSolverModel_readSort_160 h)
    · replace h := h.2 z
      refine xJ.aload_n (o_VectorSolverModel_readSort 72 rfl) rfl ?_
      refine xJ.bipush (v := 43) (o_VectorSolverModel_readSort 73 rfl) (by decide) ?_
      refine xJ.callV (Y' := Y_VectorSolverModel_needWord) (o_VectorSolverModel_readSort 74 rfl) m_VectorSolverModel_209 y_VectorSolverModel_needWord im_VectorSolverModel_needWord se_VectorSolverModel_needWord rfl rfl (s_VectorSolverModel_needWord h) rfl rfl (Nat.le_of_ble_eq_true rfl) (fun _ hx => by cases hx) (fun v u q => ?_) (fun n u q => q)
      obtain ⟨r, rfl, h⟩ := xqi_get q
      refine xJ.if_eq (tgt := 160) (o_VectorSolverModel_readSort 75 rfl) (by decide) (fun z => ?_) (fun z => ?_)
      · replace h := h.1 z
        exact xJ.lvs (by exact ⟨rfl, trivial⟩) (sw_VectorSolverModel_readSort_160 h)
      · replace h := h.2 z
        refine xJ.aload_n (o_VectorSolverModel_readSort 76 rfl) rfl ?_
        refine xJ.bipush (v := 44) (o_VectorSolverModel_readSort 77 rfl) (by decide) ?_
        refine xJ.callV (Y' := Y_VectorSolverModel_needWord) (o_VectorSolverModel_readSort 78 rfl) m_VectorSolverModel_209 y_VectorSolverModel_needWord im_VectorSolverModel_needWord se_VectorSolverModel_needWord rfl rfl (s_VectorSolverModel_needWord h) rfl rfl (Nat.le_of_ble_eq_true rfl) (fun _ hx => by cases hx) (fun v u q => ?_) (fun n u q => q)
        obtain ⟨r, rfl, h⟩ := xqi_get q
        refine xJ.if_eq (tgt := 160) (o_VectorSolverModel_readSort 79 rfl) (by decide) (fun z => ?_) (fun z => ?_)
        · replace h := h.1 z
          exact xJ.lvs (by exact ⟨rfl, trivial⟩) (sw_VectorSolverModel_readSort_160 h)
        · replace h := h.2 z
          refine xJ.iconst (v := 1) (o_VectorSolverModel_readSort 80 rfl) (by decide) ?_
          refine xJ.goto (tgt := 161) (o_VectorSolverModel_readSort 81 rfl) (by decide) ?_
          exact xJ.lvs (by exact ⟨rfl, trivial⟩) (sw_VectorSolverModel_readSort_161 h)
set_option maxRecDepth 20000 in
theorem sw_VectorSolverModel_readSort_108 {γ : xG1} {d b0 : Nat} {Q : xO → xS → Prop} {σ : xS} (h : w_VectorSolverModel_readSort_108 Q  σ) : xJ (SHP, γ) Y_VectorSolverModel_readSort (d + 4) b0 108 [(0, .ref 50)] [] σ Q := by
  refine xJ.iconst (v := 0) (o_VectorSolverModel_readSort 56 rfl) (by decide) ?_
  exact xJ.lvs (by exact ⟨rfl, trivial⟩) (sw_VectorSolverModel_readSort_109 h)
set_option maxRecDepth 20000 in
theorem sw_VectorSolverModel_readSort_73 {γ : xG1} {d b0 : Nat} {Q : xO → xS → Prop} {t0 : Int32} {σ : xS} (h : w_VectorSolverModel_readSort_73 Q t0 σ) : xJ (SHP, γ) Y_VectorSolverModel_readSort (d + 4) b0 73 [(0, .ref 50)] [.int t0] σ Q := by
  refine xJ.istore_n (o_VectorSolverModel_readSort 39 rfl) (by decide) ?_
  refine xJ.iload_n (o_VectorSolverModel_readSort 40 rfl) rfl ?_
  refine xJ.if_eq (tgt := 197) (o_VectorSolverModel_readSort 41 rfl) (by decide) (fun z => ?_) (fun z => ?_)
  · replace h := h.1 z
    refine xJ.aload_n (o_VectorSolverModel_readSort 103 rfl) rfl ?_
    refine xJ.aload_n (o_VectorSolverModel_readSort 104 rfl) rfl ?_
    refine xJ.getfield (o_VectorSolverModel_readSort 105 rfl) f_VectorSolverModel_35 rfl rfl ?_
    refine xJ.aload_n (o_VectorSolverModel_readSort 106 rfl) rfl ?_
    refine xJ.getfield (o_VectorSolverModel_readSort 107 rfl) f_VectorSolverModel_169 rfl rfl ?_
    refine xJ.baload (o_VectorSolverModel_readSort 108 rfl) rfl h.1 ?_
    replace h := h.2
    refine xJ.bipush (v := 43) (o_VectorSolverModel_readSort 109 rfl) (by decide) ?_
    refine xJ.icmp_ne (tgt := 216) (o_VectorSolverModel_readSort 110 rfl) (by decide) (fun z => ?_) (fun z => ?_)
    · replace h := h.1 z
      refine xJ.iconst (v := 0) (o_VectorSolverModel_readSort 113 rfl) (by decide) ?_
      exact xJ.lvs (by exact ⟨rfl, trivial⟩) (sw_VectorSolverModel_readSort_217 h)
    · replace h := h.2 z
      refine xJ.iconst (v := 1) (o_VectorSolverModel_readSort 111 rfl) (by decide) ?_
      refine xJ.goto (tgt := 217) (o_VectorSolverModel_readSort 112 rfl) (by decide) ?_
      exact xJ.lvs (by exact ⟨rfl, trivial⟩) (sw_VectorSolverModel_readSort_217 h)
  · replace h := h.2 z
    refine xJ.aload_n (o_VectorSolverModel_readSort 42 rfl) rfl ?_
    refine xJ.iconst (v := 1) (o_VectorSolverModel_readSort 43 rfl) (by decide) ?_
    refine xJ.callV (Y' := Y_VectorSolverModel_need) (o_VectorSolverModel_readSort 44 rfl) m_VectorSolverModel_186 y_VectorSolverModel_need im_VectorSolverModel_need se_VectorSolverModel_need rfl rfl (s_VectorSolverModel_need h) rfl rfl (Nat.le_of_ble_eq_true rfl) (fun _ hx => by cases hx) (fun v u q => ?_) (fun n u q => q)
    obtain ⟨r, rfl, h⟩ := xqi_get q
    refine xJ.if_eq (tgt := 108) (o_VectorSolverModel_readSort 45 rfl) (by decide) (fun z => ?_) (fun z => ?_)
    · replace h := h.1 z
      exact xJ.lvs (by exact ⟨rfl, trivial⟩) (sw_VectorSolverModel_readSort_108 h)
    · replace h := h.2 z
      refine xJ.aload_n (o_VectorSolverModel_readSort 46 rfl) rfl ?_
      refine xJ.bipush (v := 43) (o_VectorSolverModel_readSort 47 rfl) (by decide) ?_
      refine xJ.callV (Y' := Y_VectorSolverModel_needWord) (o_VectorSolverModel_readSort 48 rfl) m_VectorSolverModel_209 y_VectorSolverModel_needWord im_VectorSolverModel_needWord se_VectorSolverModel_needWord rfl rfl (s_VectorSolverModel_needWord h) rfl rfl (Nat.le_of_ble_eq_true rfl) (fun _ hx => by cases hx) (fun v u q => ?_) (fun n u q => q)
      obtain ⟨r, rfl, h⟩ := xqi_get q
      refine xJ.if_eq (tgt := 108) (o_VectorSolverModel_readSort 49 rfl) (by decide) (fun z => ?_) (fun z => ?_)
      · replace h := h.1 z
        exact xJ.lvs (by exact ⟨rfl, trivial⟩) (sw_VectorSolverModel_readSort_108 h)
      · replace h := h.2 z
        refine xJ.aload_n (o_VectorSolverModel_readSort 50 rfl) rfl ?_
        refine xJ.bipush (v := 44) (o_VectorSolverModel_readSort 51 rfl) (by decide) ?_
        refine xJ.callV (Y' := Y_VectorSolverModel_needWord) (o_VectorSolverModel_readSort 52 rfl) m_VectorSolverModel_209 y_VectorSolverModel_needWord im_VectorSolverModel_needWord se_VectorSolverModel_needWord rfl rfl (s_VectorSolverModel_needWord h) rfl rfl (Nat.le_of_ble_eq_true rfl) (fun _ hx => by cases hx) (fun v u q => ?_) (fun n u q => q)
        obtain ⟨r, rfl, h⟩ := xqi_get q
        refine xJ.if_eq (tgt := 108) (o_VectorSolverModel_readSort 53 rfl) (by decide) (fun z => ?_) (fun z => ?_)
        · replace h := h.1 z
          exact xJ.lvs (by exact ⟨rfl, trivial⟩) (sw_VectorSolverModel_readSort_108 h)
        · replace h := h.2 z
          refine xJ.iconst (v := 1) (o_VectorSolverModel_readSort 54 rfl) (by decide) ?_
          refine xJ.goto (tgt := 109) (o_VectorSolverModel_readSort 55 rfl) (by decide) ?_
          exact xJ.lvs (by exact ⟨rfl, trivial⟩) (sw_VectorSolverModel_readSort_109 h)
set_option maxRecDepth 20000 in
theorem sw_VectorSolverModel_readSort_43 {γ : xG1} {d b0 : Nat} {Q : xO → xS → Prop} {t1 : Int32} {σ : xS} (h : w_VectorSolverModel_readSort_43 Q t1 σ) : xJ (SHP, γ) Y_VectorSolverModel_readSort (d + 4) b0 43 [(0, .ref 50)] [.int t1, .ref 50] σ Q := by
  refine xJ.callV (Y' := Y_VectorSolverModel_must) (o_VectorSolverModel_readSort 24 rfl) m_VectorSolverModel_179 y_VectorSolverModel_must im_VectorSolverModel_must se_VectorSolverModel_must rfl rfl (s_VectorSolverModel_must h) rfl rfl (Nat.le_of_ble_eq_true rfl) (fun _ hx => by cases hx) (fun v u q => ?_) (fun n u q => q)
  obtain ⟨r, rfl, h⟩ := xqi_get q
  refine xJ.if_ne (tgt := 50) (o_VectorSolverModel_readSort 25 rfl) (by decide) (fun z => ?_) (fun z => ?_)
  · replace h := h.1 z
    refine xJ.aload_n (o_VectorSolverModel_readSort 27 rfl) rfl ?_
    refine xJ.callV (Y' := Y_VectorSolverModel_next) (o_VectorSolverModel_readSort 28 rfl) m_VectorSolverModel_176 y_VectorSolverModel_next im_VectorSolverModel_next se_VectorSolverModel_next rfl rfl (s_VectorSolverModel_next h) rfl rfl (Nat.le_of_ble_eq_true rfl) (fun _ hx => by cases hx) (fun v u q => ?_) (fun n u q => q)
    obtain ⟨rfl, h⟩ := xqv_get q
    refine xJ.aload_n (o_VectorSolverModel_readSort 29 rfl) rfl ?_
    refine xJ.getfield (o_VectorSolverModel_readSort 30 rfl) f_VectorSolverModel_35 rfl rfl ?_
    refine xJ.aload_n (o_VectorSolverModel_readSort 31 rfl) rfl ?_
    refine xJ.getfield (o_VectorSolverModel_readSort 32 rfl) f_VectorSolverModel_169 rfl rfl ?_
    refine xJ.baload (o_VectorSolverModel_readSort 33 rfl) rfl h.1 ?_
    replace h := h.2
    refine xJ.bipush (v := 45) (o_VectorSolverModel_readSort 34 rfl) (by decide) ?_
    refine xJ.icmp_ne (tgt := 72) (o_VectorSolverModel_readSort 35 rfl) (by decide) (fun z => ?_) (fun z => ?_)
    · replace h := h.1 z
      refine xJ.iconst (v := 0) (o_VectorSolverModel_readSort 38 rfl) (by decide) ?_
      exact xJ.lvs (by exact ⟨rfl, trivial⟩) (sw_VectorSolverModel_readSort_73 h)
    · replace h := h.2 z
      refine xJ.iconst (v := 1) (o_VectorSolverModel_readSort 36 rfl) (by decide) ?_
      refine xJ.goto (tgt := 73) (o_VectorSolverModel_readSort 37 rfl) (by decide) ?_
      exact xJ.lvs (by exact ⟨rfl, trivial⟩) (sw_VectorSolverModel_readSort_73 h)
  · replace h := h.2 z
    exact xJ.return_ (o_VectorSolverModel_readSort 26 rfl) rfl h
set_option maxRecDepth 20000 in
theorem s_VectorSolverModel_readSort {γ : xG1} {d : Nat} {Q : xO → xS → Prop} {σ : xS}  (h : wp_VectorSolverModel_readSort Q σ ) : xM (SHP, γ) Y_VectorSolverModel_readSort (d + 4) [.ref 50] σ Q := by
  refine xM.of (by decide) (Nat.le_of_ble_eq_true rfl) ?_
  refine xJ.aload_n (o_VectorSolverModel_readSort 0 rfl) rfl ?_
  refine xJ.iconst (v := 0) (o_VectorSolverModel_readSort 1 rfl) (by decide) ?_
  refine xJ.putI (o_VectorSolverModel_readSort 2 rfl) f_VectorSolverModel_203 rfl rfl rfl ?_
  replace h := h _ rfl
  refine xJ.aload_n (o_VectorSolverModel_readSort 3 rfl) rfl ?_
  refine xJ.iconst (v := 0) (o_VectorSolverModel_readSort 4 rfl) (by decide) ?_
  refine xJ.putI (o_VectorSolverModel_readSort 5 rfl) f_VectorSolverModel_206 rfl rfl rfl ?_
  replace h := h _ rfl
  refine xJ.aload_n (o_VectorSolverModel_readSort 6 rfl) rfl ?_
  refine xJ.getfield (o_VectorSolverModel_readSort 7 rfl) f_VectorSolverModel_35 rfl rfl ?_
  refine xJ.aload_n (o_VectorSolverModel_readSort 8 rfl) rfl ?_
  refine xJ.getfield (o_VectorSolverModel_readSort 9 rfl) f_VectorSolverModel_169 rfl rfl ?_
  refine xJ.baload (o_VectorSolverModel_readSort 10 rfl) rfl h.1 ?_
  replace h := h.2
  refine xJ.bipush (v := 42) (o_VectorSolverModel_readSort 11 rfl) (by decide) ?_
  refine xJ.icmp_eq (tgt := 49) (o_VectorSolverModel_readSort 12 rfl) (by decide) (fun z => ?_) (fun z => ?_)
  · replace h := h.1 z
    exact xJ.return_ (o_VectorSolverModel_readSort 26 rfl) rfl h
  · replace h := h.2 z
    refine xJ.aload_n (o_VectorSolverModel_readSort 13 rfl) rfl ?_
    refine xJ.aload_n (o_VectorSolverModel_readSort 14 rfl) rfl ?_
    refine xJ.getfield (o_VectorSolverModel_readSort 15 rfl) f_VectorSolverModel_25 rfl rfl ?_
    refine xJ.aload_n (o_VectorSolverModel_readSort 16 rfl) rfl ?_
    refine xJ.getfield (o_VectorSolverModel_readSort 17 rfl) f_VectorSolverModel_169 rfl rfl ?_
    refine xJ.baload (o_VectorSolverModel_readSort 18 rfl) rfl h.1 ?_
    replace h := h.2
    refine xJ.iconst (v := 1) (o_VectorSolverModel_readSort 19 rfl) (by decide) ?_
    refine xJ.icmp_ne (tgt := 42) (o_VectorSolverModel_readSort 20 rfl) (by decide) (fun z => ?_) (fun z => ?_)
    · replace h := h.1 z
      refine xJ.iconst (v := 0) (o_VectorSolverModel_readSort 23 rfl) (by decide) ?_
      exact xJ.lvs (by exact ⟨rfl, trivial⟩) (sw_VectorSolverModel_readSort_43 h)
    · replace h := h.2 z
      refine xJ.iconst (v := 1) (o_VectorSolverModel_readSort 21 rfl) (by decide) ?_
      refine xJ.goto (tgt := 43) (o_VectorSolverModel_readSort 22 rfl) (by decide) ?_
      exact xJ.lvs (by exact ⟨rfl, trivial⟩) (sw_VectorSolverModel_readSort_43 h)
def w_VectorSolverModel_freshName_94 (Q : xO → xS → Prop) (t1 : Int32) (σ : xS) : Prop :=
  (vp_in (xi σ 50 10) 65537 ∧ wp_VectorSolverModel_want (xqi (fun r6 u5 => Q (.inl (some (.int (xi u5 50 10)))) u5) (fun n u => Q (.inr n) u)) σ t1 11 (xi σ 53 (xi σ 50 10).toNatClampNeg))
def w_VectorSolverModel_freshName_93 (Q : xO → xS → Prop) (σ : xS) : Prop :=
  w_VectorSolverModel_freshName_94 Q 0 σ
def w_VectorSolverModel_freshName_34 (Q : xO → xS → Prop) (t1 : Int32) (σ : xS) : Prop :=
  (vp_in (xi σ 50 10) 65537 ∧ wp_VectorSolverModel_want (xqi (fun r4 u3 => ((500 ≤ (xi u3 50 23) → w_VectorSolverModel_freshName_93 Q  u3) ∧ (¬ 500 ≤ (xi u3 50 23) → wp_VectorSolverModel_used (xqi (fun r8 u7 => (vp_in (xi u7 50 10) 65537 ∧ (vp_in (xi u7 50 10) 65537 ∧ ((65536 < ((r8 + (xi u7 54 (xi u7 50 10).toNatClampNeg)) - (xi u7 53 (xi u7 50 10).toNatClampNeg)) → w_VectorSolverModel_freshName_93 Q  u7) ∧ (¬ 65536 < ((r8 + (xi u7 54 (xi u7 50 10).toNatClampNeg)) - (xi u7 53 (xi u7 50 10).toNatClampNeg)) → w_VectorSolverModel_freshName_94 Q 1 u7))))) (fun n u => Q (.inr n) u)) u3 ))) (fun n u => Q (.inr n) u)) σ t1 6 (xi σ 53 (xi σ 50 10).toNatClampNeg))
def w_VectorSolverModel_freshName_33 (Q : xO → xS → Prop) (σ : xS) : Prop :=
  w_VectorSolverModel_freshName_34 Q 0 σ
def wp_VectorSolverModel_freshName (Q : xO → xS → Prop) (σ : xS)  : Prop :=
  wp_VectorSolverModel_need (xqi (fun r2 u1 => ((r2 = 0 → Q (.inl (some (.int (xi u1 50 10)))) u1) ∧ (¬ r2 = 0 → (vp_in (xi u1 50 10) 65537 ∧ ((0 ≤ (xi u1 55 (xi u1 50 10).toNatClampNeg) → w_VectorSolverModel_freshName_33 Q  u1) ∧ (¬ 0 ≤ (xi u1 55 (xi u1 50 10).toNatClampNeg) → wp_VectorSolverModel_findName (xqi (fun r10 u9 => ((0 ≤ r10 → w_VectorSolverModel_freshName_33 Q  u9) ∧ (¬ 0 ≤ r10 → w_VectorSolverModel_freshName_34 Q 1 u9))) (fun n u => Q (.inr n) u)) u1 )))))) (fun n u => Q (.inr n) u)) σ 6
set_option maxRecDepth 20000 in
theorem sw_VectorSolverModel_freshName_94 {γ : xG1} {d b0 : Nat} {Q : xO → xS → Prop} {t1 : Int32} {σ : xS} (h : w_VectorSolverModel_freshName_94 Q t1 σ) : xJ (SHP, γ) Y_VectorSolverModel_freshName (d + 3) b0 94 [(0, .ref 50)] [.int t1, .ref 50] σ Q := by
  refine xJ.bipush (v := 11) (o_VectorSolverModel_freshName 49 rfl) (by decide) ?_
  refine xJ.aload_n (o_VectorSolverModel_freshName 50 rfl) rfl ?_
  refine xJ.getfield (o_VectorSolverModel_freshName 51 rfl) f_VectorSolverModel_28 rfl rfl ?_
  refine xJ.aload_n (o_VectorSolverModel_freshName 52 rfl) rfl ?_
  refine xJ.getfield (o_VectorSolverModel_freshName 53 rfl) f_VectorSolverModel_169 rfl rfl ?_
  refine xJ.iaload (o_VectorSolverModel_freshName 54 rfl) rfl h.1 ?_
  replace h := h.2
  refine xJ.callV (Y' := Y_VectorSolverModel_want) (o_VectorSolverModel_freshName 55 rfl) m_VectorSolverModel_172 y_VectorSolverModel_want im_VectorSolverModel_want se_VectorSolverModel_want rfl rfl (s_VectorSolverModel_want h) rfl rfl (Nat.le_of_ble_eq_true rfl) (fun _ hx => by cases hx) (fun v u q => ?_) (fun n u q => q)
  obtain ⟨r, rfl, h⟩ := xqi_get q
  refine xJ.istore_n (o_VectorSolverModel_freshName 56 rfl) (by decide) ?_
  refine xJ.aload_n (o_VectorSolverModel_freshName 57 rfl) rfl ?_
  refine xJ.getfield (o_VectorSolverModel_freshName 58 rfl) f_VectorSolverModel_169 rfl rfl ?_
  exact xJ.ireturn (o_VectorSolverModel_freshName 59 rfl) rfl h
set_option maxRecDepth 20000 in
theorem sw_VectorSolverModel_freshName_93 {γ : xG1} {d b0 : Nat} {Q : xO → xS → Prop} {σ : xS} (h : w_VectorSolverModel_freshName_93 Q  σ) : xJ (SHP, γ) Y_VectorSolverModel_freshName (d + 3) b0 93 [(0, .ref 50)] [.ref 50] σ Q := by
  refine xJ.iconst (v := 0) (o_VectorSolverModel_freshName 48 rfl) (by decide) ?_
  exact xJ.lvs (by exact ⟨rfl, trivial⟩) (sw_VectorSolverModel_freshName_94 h)
set_option maxRecDepth 20000 in
theorem sw_VectorSolverModel_freshName_34 {γ : xG1} {d b0 : Nat} {Q : xO → xS → Prop} {t1 : Int32} {σ : xS} (h : w_VectorSolverModel_freshName_34 Q t1 σ) : xJ (SHP, γ) Y_VectorSolverModel_freshName (d + 3) b0 34 [(0, .ref 50)] [.int t1, .ref 50] σ Q := by
  refine xJ.bipush (v := 6) (o_VectorSolverModel_freshName 17 rfl) (by decide) ?_
  refine xJ.aload_n (o_VectorSolverModel_freshName 18 rfl) rfl ?_
  refine xJ.getfield (o_VectorSolverModel_freshName 19 rfl) f_VectorSolverModel_28 rfl rfl ?_
  refine xJ.aload_n (o_VectorSolverModel_freshName 20 rfl) rfl ?_
  refine xJ.getfield (o_VectorSolverModel_freshName 21 rfl) f_VectorSolverModel_169 rfl rfl ?_
  refine xJ.iaload (o_VectorSolverModel_freshName 22 rfl) rfl h.1 ?_
  replace h := h.2
  refine xJ.callV (Y' := Y_VectorSolverModel_want) (o_VectorSolverModel_freshName 23 rfl) m_VectorSolverModel_172 y_VectorSolverModel_want im_VectorSolverModel_want se_VectorSolverModel_want rfl rfl (s_VectorSolverModel_want h) rfl rfl (Nat.le_of_ble_eq_true rfl) (fun _ hx => by cases hx) (fun v u q => ?_) (fun n u q => q)
  obtain ⟨r, rfl, h⟩ := xqi_get q
  refine xJ.istore_n (o_VectorSolverModel_freshName 24 rfl) (by decide) ?_
  refine xJ.aload_n (o_VectorSolverModel_freshName 25 rfl) rfl ?_
  refine xJ.aload_n (o_VectorSolverModel_freshName 26 rfl) rfl ?_
  refine xJ.getfield (o_VectorSolverModel_freshName 27 rfl) f_VectorSolverModel_183 rfl rfl ?_
  refine xJ.sipush (v := 500) (o_VectorSolverModel_freshName 28 rfl) (by decide) ?_
  refine xJ.icmp_ge (tgt := 93) (o_VectorSolverModel_freshName 29 rfl) (by decide) (fun z => ?_) (fun z => ?_)
  · replace h := h.1 z
    exact xJ.lvs (by exact ⟨rfl, trivial⟩) (sw_VectorSolverModel_freshName_93 h)
  · replace h := h.2 z
    refine xJ.aload_n (o_VectorSolverModel_freshName 30 rfl) rfl ?_
    refine xJ.callV (Y' := Y_VectorSolverModel_used) (o_VectorSolverModel_freshName 31 rfl) m_VectorSolverModel_200 y_VectorSolverModel_used im_VectorSolverModel_used se_VectorSolverModel_used rfl rfl (s_VectorSolverModel_used h) rfl rfl (Nat.le_of_ble_eq_true rfl) (fun _ hx => by cases hx) (fun v u q => ?_) (fun n u q => q)
    obtain ⟨r, rfl, h⟩ := xqi_get q
    refine xJ.aload_n (o_VectorSolverModel_freshName 32 rfl) rfl ?_
    refine xJ.getfield (o_VectorSolverModel_freshName 33 rfl) f_VectorSolverModel_32 rfl rfl ?_
    refine xJ.aload_n (o_VectorSolverModel_freshName 34 rfl) rfl ?_
    refine xJ.getfield (o_VectorSolverModel_freshName 35 rfl) f_VectorSolverModel_169 rfl rfl ?_
    refine xJ.iaload (o_VectorSolverModel_freshName 36 rfl) rfl h.1 ?_
    replace h := h.2
    refine xJ.iadd (o_VectorSolverModel_freshName 37 rfl) ?_
    refine xJ.aload_n (o_VectorSolverModel_freshName 38 rfl) rfl ?_
    refine xJ.getfield (o_VectorSolverModel_freshName 39 rfl) f_VectorSolverModel_28 rfl rfl ?_
    refine xJ.aload_n (o_VectorSolverModel_freshName 40 rfl) rfl ?_
    refine xJ.getfield (o_VectorSolverModel_freshName 41 rfl) f_VectorSolverModel_169 rfl rfl ?_
    refine xJ.iaload (o_VectorSolverModel_freshName 42 rfl) rfl h.1 ?_
    replace h := h.2
    refine xJ.isub (o_VectorSolverModel_freshName 43 rfl) ?_
    refine xJ.ldc (v := 65536) (o_VectorSolverModel_freshName 44 rfl) k_VectorSolverModel_15 ?_
    refine xJ.icmp_gt (tgt := 93) (o_VectorSolverModel_freshName 45 rfl) (by decide) (fun z => ?_) (fun z => ?_)
    · replace h := h.1 z
      exact xJ.lvs (by exact ⟨rfl, trivial⟩) (sw_VectorSolverModel_freshName_93 h)
    · replace h := h.2 z
      refine xJ.iconst (v := 1) (o_VectorSolverModel_freshName 46 rfl) (by decide) ?_
      refine xJ.goto (tgt := 94) (o_VectorSolverModel_freshName 47 rfl) (by decide) ?_
      exact xJ.lvs (by exact ⟨rfl, trivial⟩) (sw_VectorSolverModel_freshName_94 h)
set_option maxRecDepth 20000 in
theorem sw_VectorSolverModel_freshName_33 {γ : xG1} {d b0 : Nat} {Q : xO → xS → Prop} {σ : xS} (h : w_VectorSolverModel_freshName_33 Q  σ) : xJ (SHP, γ) Y_VectorSolverModel_freshName (d + 3) b0 33 [(0, .ref 50)] [.ref 50] σ Q := by
  refine xJ.iconst (v := 0) (o_VectorSolverModel_freshName 16 rfl) (by decide) ?_
  exact xJ.lvs (by exact ⟨rfl, trivial⟩) (sw_VectorSolverModel_freshName_34 h)
set_option maxRecDepth 20000 in
theorem s_VectorSolverModel_freshName {γ : xG1} {d : Nat} {Q : xO → xS → Prop} {σ : xS}  (h : wp_VectorSolverModel_freshName Q σ ) : xM (SHP, γ) Y_VectorSolverModel_freshName (d + 3) [.ref 50] σ Q := by
  refine xM.of (by decide) (Nat.le_of_ble_eq_true rfl) ?_
  refine xJ.aload_n (o_VectorSolverModel_freshName 0 rfl) rfl ?_
  refine xJ.bipush (v := 6) (o_VectorSolverModel_freshName 1 rfl) (by decide) ?_
  refine xJ.callV (Y' := Y_VectorSolverModel_need) (o_VectorSolverModel_freshName 2 rfl) m_VectorSolverModel_186 y_VectorSolverModel_need im_VectorSolverModel_need se_VectorSolverModel_need rfl rfl (s_VectorSolverModel_need h) rfl rfl (Nat.le_of_ble_eq_true rfl) (fun _ hx => by cases hx) (fun v u q => ?_) (fun n u q => q)
  obtain ⟨r, rfl, h⟩ := xqi_get q
  refine xJ.if_eq (tgt := 109) (o_VectorSolverModel_freshName 3 rfl) (by decide) (fun z => ?_) (fun z => ?_)
  · replace h := h.1 z
    refine xJ.aload_n (o_VectorSolverModel_freshName 57 rfl) rfl ?_
    refine xJ.getfield (o_VectorSolverModel_freshName 58 rfl) f_VectorSolverModel_169 rfl rfl ?_
    exact xJ.ireturn (o_VectorSolverModel_freshName 59 rfl) rfl h
  · replace h := h.2 z
    refine xJ.aload_n (o_VectorSolverModel_freshName 4 rfl) rfl ?_
    refine xJ.aload_n (o_VectorSolverModel_freshName 5 rfl) rfl ?_
    refine xJ.getfield (o_VectorSolverModel_freshName 6 rfl) f_VectorSolverModel_35 rfl rfl ?_
    refine xJ.aload_n (o_VectorSolverModel_freshName 7 rfl) rfl ?_
    refine xJ.getfield (o_VectorSolverModel_freshName 8 rfl) f_VectorSolverModel_169 rfl rfl ?_
    refine xJ.baload (o_VectorSolverModel_freshName 9 rfl) rfl h.1 ?_
    replace h := h.2
    refine xJ.if_ge (tgt := 33) (o_VectorSolverModel_freshName 10 rfl) (by decide) (fun z => ?_) (fun z => ?_)
    · replace h := h.1 z
      exact xJ.lvs (by exact ⟨rfl, trivial⟩) (sw_VectorSolverModel_freshName_33 h)
    · replace h := h.2 z
      refine xJ.aload_n (o_VectorSolverModel_freshName 11 rfl) rfl ?_
      refine xJ.callV (Y' := Y_VectorSolverModel_findName) (o_VectorSolverModel_freshName 12 rfl) m_VectorSolverModel_197 y_VectorSolverModel_findName im_VectorSolverModel_findName se_VectorSolverModel_findName rfl rfl (s_VectorSolverModel_findName h) rfl rfl (Nat.le_of_ble_eq_true rfl) (fun _ hx => by cases hx) (fun v u q => ?_) (fun n u q => q)
      obtain ⟨r, rfl, h⟩ := xqi_get q
      refine xJ.if_ge (tgt := 33) (o_VectorSolverModel_freshName 13 rfl) (by decide) (fun z => ?_) (fun z => ?_)
      · replace h := h.1 z
        exact xJ.lvs (by exact ⟨rfl, trivial⟩) (sw_VectorSolverModel_freshName_33 h)
      · replace h := h.2 z
        refine xJ.iconst (v := 1) (o_VectorSolverModel_freshName 14 rfl) (by decide) ?_
        refine xJ.goto (tgt := 34) (o_VectorSolverModel_freshName 15 rfl) (by decide) ?_
        exact xJ.lvs (by exact ⟨rfl, trivial⟩) (sw_VectorSolverModel_freshName_34 h)
def w_VectorSolverModel_command_344 (Q : xO → xS → Prop) (σ : xS) : Prop :=
  wp_VectorSolverModel_need (xqi (fun r8 u7 => Q (.inl none) u7) (fun n u => Q (.inr n) u)) σ 2
def w_VectorSolverModel_command_312 (Q : xO → xS → Prop) (a1 : Int32) (t1 : Int32) (σ : xS) : Prop :=
  wp_VectorSolverModel_want (xqi (fun r12 u11 => ((r12 = 0 → w_VectorSolverModel_command_344 Q  u11) ∧ (¬ r12 = 0 → (vp_in (xi u11 50 27) 500 ∧ (∀ s13 : xS, s13 = xpi u11 69 (xi u11 50 27).toNatClampNeg a1 → (∀ s14 : xS, s14 = xpi s13 50 27 ((xi s13 50 27) + 1) → w_VectorSolverModel_command_344 Q  s14)))))) (fun n u => Q (.inr n) u)) σ t1 11 (xi σ 50 55)
def w_VectorSolverModel_command_283 (Q : xO → xS → Prop) (t1 : Int32) (σ : xS) : Prop :=
  wp_VectorSolverModel_must (xqi (fun r6 u5 => ((r6 = 0 → w_VectorSolverModel_command_344 Q  u5) ∧ (¬ r6 = 0 → wp_VectorSolverModel_told (xqi (fun r10 u9 => ((500 ≤ (xi u9 50 27) → w_VectorSolverModel_command_312 Q r10 0 u9) ∧ (¬ 500 ≤ (xi u9 50 27) → w_VectorSolverModel_command_312 Q r10 1 u9))) (fun n u => Q (.inr n) u)) u5 0 0))) (fun n u => Q (.inr n) u)) σ t1
def w_VectorSolverModel_command_260 (Q : xO → xS → Prop) (σ : xS) : Prop :=
  w_VectorSolverModel_command_344 Q  σ
def w_VectorSolverModel_command_224 (Q : xO → xS → Prop) (a1 : Int32) (σ : xS) : Prop :=
  (∀ x21 : Int32, x21 = (xi σ 50 53) → (∀ x22 : Int32, x22 = (xi σ 50 54) → wp_VectorSolverModel_told (xqi (fun r24 u23 => ((¬ (xi u23 50 4) = 0 → w_VectorSolverModel_command_260 Q  u23) ∧ ((xi u23 50 4) = 0 → wp_VectorSolverModel_addName (xqi (fun r26 u25 => w_VectorSolverModel_command_260 Q  u25) (fun n u => Q (.inr n) u)) u23 a1 r24))) (fun n u => Q (.inr n) u)) σ x21 x22))
def w_VectorSolverModel_command_208 (Q : xO → xS → Prop) (a1 : Int32) (t0 : Int32) (σ : xS) : Prop :=
  wp_VectorSolverModel_next (xqv (fun u19 => ((¬ (xi u19 50 4) = 0 → w_VectorSolverModel_command_224 Q a1 u19) ∧ ((xi u19 50 4) = 0 → wp_VectorSolverModel_readSort (xqv (fun u27 => w_VectorSolverModel_command_224 Q a1 u27) (fun n u => Q (.inr n) u)) u19 ))) (fun n u => Q (.inr n) u)) σ 
def w_VectorSolverModel_command_207 (Q : xO → xS → Prop) (a1 : Int32) (σ : xS) : Prop :=
  w_VectorSolverModel_command_208 Q a1 0 σ
def w_VectorSolverModel_command_165 (Q : xO → xS → Prop) (σ : xS) : Prop :=
  w_VectorSolverModel_command_344 Q  σ
def w_VectorSolverModel_command_105 (Q : xO → xS → Prop) (a1 : Int32) (t0 : Int32) (σ : xS) : Prop :=
  ((¬ (xi σ 50 4) = 0 → w_VectorSolverModel_command_165 Q  σ) ∧ ((xi σ 50 4) = 0 → wp_VectorSolverModel_addName (xqi (fun r36 u35 => (vp_in t0 2000 ∧ (∀ s37 : xS, s37 = xpi u35 63 t0.toNatClampNeg r36 → (vp_in (xi s37 50 42) 2000 ∧ (∀ s38 : xS, s38 = xpi s37 80 (xi s37 50 42).toNatClampNeg t0 → (∀ s39 : xS, s39 = xpi s38 50 42 ((xi s38 50 42) + 1) → wp_VectorSolverModel_bitsOf (xqi (fun r41 u40 => (∀ s42 : xS, s42 = xpi u40 50 45 ((xi s39 50 45) + r41) → w_VectorSolverModel_command_165 Q  s42)) (fun n u => Q (.inr n) u)) s39 (xi s39 50 53) (xi s39 50 54))))))) (fun n u => Q (.inr n) u)) σ a1 t0))
def w_VectorSolverModel_command_64 (Q : xO → xS → Prop) (a1 : Int32) (σ : xS) : Prop :=
  ((¬ (xi σ 50 4) = 0 → w_VectorSolverModel_command_105 Q a1 0 σ) ∧ ((xi σ 50 4) = 0 → wp_VectorSolverModel_bitsOf (xqi (fun r44 u43 => (vp_in a1 65537 ∧ wp_VectorSolverModel_make (xqi (fun r46 u45 => w_VectorSolverModel_command_105 Q a1 r46 u45) (fun n u => Q (.inr n) u)) u43 0 (xi σ 50 53) (xi σ 50 54) r44 (xi u43 53 a1.toNatClampNeg))) (fun n u => Q (.inr n) u)) σ (xi σ 50 53) (xi σ 50 54)))
def w_VectorSolverModel_command_19 (Q : xO → xS → Prop) (t1 : Int32) (σ : xS) : Prop :=
  wp_VectorSolverModel_must (xqi (fun r2 u1 => ((¬ r2 = 0 → wp_VectorSolverModel_next (xqv (fun u3 => (vp_in (xi u3 50 10) 65537 ∧ ((¬ (xi u3 55 (xi u3 50 10).toNatClampNeg) = 39 → (vp_in (xi u3 50 10) 65537 ∧ ((¬ (xi u3 55 (xi u3 50 10).toNatClampNeg) = 40 → (vp_in (xi u3 50 10) 65537 ∧ ((¬ (xi u3 55 (xi u3 50 10).toNatClampNeg) = 41 → w_VectorSolverModel_command_283 Q 0 u3) ∧ ((xi u3 55 (xi u3 50 10).toNatClampNeg) = 41 → w_VectorSolverModel_command_283 Q 1 u3)))) ∧ ((xi u3 55 (xi u3 50 10).toNatClampNeg) = 40 → wp_VectorSolverModel_freshName (xqi (fun r16 u15 => wp_VectorSolverModel_need (xqi (fun r18 u17 => ((r18 = 0 → w_VectorSolverModel_command_207 Q r16 u17) ∧ (¬ r18 = 0 → wp_VectorSolverModel_need (xqi (fun r30 u29 => ((r30 = 0 → w_VectorSolverModel_command_207 Q r16 u29) ∧ (¬ r30 = 0 → w_VectorSolverModel_command_208 Q r16 1 u29))) (fun n u => Q (.inr n) u)) u17 2))) (fun n u => Q (.inr n) u)) u15 1) (fun n u => Q (.inr n) u)) u3 )))) ∧ ((xi u3 55 (xi u3 50 10).toNatClampNeg) = 39 → wp_VectorSolverModel_freshName (xqi (fun r32 u31 => wp_VectorSolverModel_next (xqv (fun u33 => ((¬ (xi u33 50 4) = 0 → w_VectorSolverModel_command_64 Q r32 u33) ∧ ((xi u33 50 4) = 0 → wp_VectorSolverModel_readSort (xqv (fun u47 => w_VectorSolverModel_command_64 Q r32 u47) (fun n u => Q (.inr n) u)) u33 ))) (fun n u => Q (.inr n) u)) u31 ) (fun n u => Q (.inr n) u)) u3 )))) (fun n u => Q (.inr n) u)) u1 ) ∧ (r2 = 0 → Q (.inl none) u1))) (fun n u => Q (.inr n) u)) σ t1
def wp_VectorSolverModel_command (Q : xO → xS → Prop) (σ : xS)  : Prop :=
  (vp_in (xi σ 50 10) 65537 ∧ ((¬ (xi σ 52 (xi σ 50 10).toNatClampNeg) = 1 → w_VectorSolverModel_command_19 Q 0 σ) ∧ ((xi σ 52 (xi σ 50 10).toNatClampNeg) = 1 → w_VectorSolverModel_command_19 Q 1 σ)))
set_option maxRecDepth 20000 in
theorem sw_VectorSolverModel_command_344 {γ : xG1} {d b0 : Nat} {Q : xO → xS → Prop} {σ : xS} (h : w_VectorSolverModel_command_344 Q  σ) : xJ (SHP, γ) Y_VectorSolverModel_command (d + 7) b0 344 [(0, .ref 50)] [] σ Q := by
  refine xJ.aload_n (o_VectorSolverModel_command 181 rfl) rfl ?_
  refine xJ.iconst (v := 2) (o_VectorSolverModel_command 182 rfl) (by decide) ?_
  refine xJ.callV (Y' := Y_VectorSolverModel_need) (o_VectorSolverModel_command 183 rfl) m_VectorSolverModel_186 y_VectorSolverModel_need im_VectorSolverModel_need se_VectorSolverModel_need rfl rfl (s_VectorSolverModel_need h) rfl rfl (Nat.le_of_ble_eq_true rfl) (fun _ hx => by cases hx) (fun v u q => ?_) (fun n u q => q)
  obtain ⟨r, rfl, h⟩ := xqi_get q
  refine xJ.istore_n (o_VectorSolverModel_command 184 rfl) (by decide) ?_
  exact xJ.return_ (o_VectorSolverModel_command 185 rfl) rfl h
set_option maxRecDepth 20000 in
theorem sw_VectorSolverModel_command_312 {γ : xG1} {d b0 : Nat} {Q : xO → xS → Prop} {a1 : Int32} {t1 : Int32} {σ : xS} (h : w_VectorSolverModel_command_312 Q a1 t1 σ) : xJ (SHP, γ) Y_VectorSolverModel_command (d + 7) b0 312 [(0, .ref 50), (1, .int a1)] [.int t1, .ref 50] σ Q := by
  refine xJ.bipush (v := 11) (o_VectorSolverModel_command 164 rfl) (by decide) ?_
  refine xJ.aload_n (o_VectorSolverModel_command 165 rfl) rfl ?_
  refine xJ.getfield (o_VectorSolverModel_command 166 rfl) f_VectorSolverModel_258 rfl rfl ?_
  refine xJ.callV (Y' := Y_VectorSolverModel_want) (o_VectorSolverModel_command 167 rfl) m_VectorSolverModel_172 y_VectorSolverModel_want im_VectorSolverModel_want se_VectorSolverModel_want rfl rfl (s_VectorSolverModel_want h) rfl rfl (Nat.le_of_ble_eq_true rfl) (fun _ hx => by cases hx) (fun v u q => ?_) (fun n u q => q)
  obtain ⟨r, rfl, h⟩ := xqi_get q
  refine xJ.if_eq (tgt := 344) (o_VectorSolverModel_command 168 rfl) (by decide) (fun z => ?_) (fun z => ?_)
  · replace h := h.1 z
    exact xJ.lvs (by exact ⟨rfl, trivial⟩) (sw_VectorSolverModel_command_344 h)
  · replace h := h.2 z
    refine xJ.aload_n (o_VectorSolverModel_command 169 rfl) rfl ?_
    refine xJ.getfield (o_VectorSolverModel_command 170 rfl) f_VectorSolverModel_79 rfl rfl ?_
    refine xJ.aload_n (o_VectorSolverModel_command 171 rfl) rfl ?_
    refine xJ.getfield (o_VectorSolverModel_command 172 rfl) f_VectorSolverModel_255 rfl rfl ?_
    refine xJ.iload_n (o_VectorSolverModel_command 173 rfl) rfl ?_
    refine xJ.iastore (o_VectorSolverModel_command 174 rfl) rfl h.1 ?_
    replace h := h.2
    replace h := h _ rfl
    refine xJ.aload_n (o_VectorSolverModel_command 175 rfl) rfl ?_
    refine xJ.dup (o_VectorSolverModel_command 176 rfl) rfl ?_
    refine xJ.getfield (o_VectorSolverModel_command 177 rfl) f_VectorSolverModel_255 rfl rfl ?_
    refine xJ.iconst (v := 1) (o_VectorSolverModel_command 178 rfl) (by decide) ?_
    refine xJ.iadd (o_VectorSolverModel_command 179 rfl) ?_
    refine xJ.putI (o_VectorSolverModel_command 180 rfl) f_VectorSolverModel_255 rfl rfl rfl ?_
    replace h := h _ rfl
    exact xJ.lvs (by exact ⟨rfl, trivial⟩) (sw_VectorSolverModel_command_344 h)
set_option maxRecDepth 20000 in
theorem sw_VectorSolverModel_command_283 {γ : xG1} {d b0 : Nat} {Q : xO → xS → Prop} {t1 : Int32} {σ : xS} (h : w_VectorSolverModel_command_283 Q t1 σ) : xJ (SHP, γ) Y_VectorSolverModel_command (d + 7) b0 283 [(0, .ref 50)] [.int t1, .ref 50] σ Q := by
  refine xJ.callV (Y' := Y_VectorSolverModel_must) (o_VectorSolverModel_command 149 rfl) m_VectorSolverModel_179 y_VectorSolverModel_must im_VectorSolverModel_must se_VectorSolverModel_must rfl rfl (s_VectorSolverModel_must h) rfl rfl (Nat.le_of_ble_eq_true rfl) (fun _ hx => by cases hx) (fun v u q => ?_) (fun n u q => q)
  obtain ⟨r, rfl, h⟩ := xqi_get q
  refine xJ.if_eq (tgt := 344) (o_VectorSolverModel_command 150 rfl) (by decide) (fun z => ?_) (fun z => ?_)
  · replace h := h.1 z
    exact xJ.lvs (by exact ⟨rfl, trivial⟩) (sw_VectorSolverModel_command_344 h)
  · replace h := h.2 z
    refine xJ.aload_n (o_VectorSolverModel_command 151 rfl) rfl ?_
    refine xJ.iconst (v := 0) (o_VectorSolverModel_command 152 rfl) (by decide) ?_
    refine xJ.iconst (v := 0) (o_VectorSolverModel_command 153 rfl) (by decide) ?_
    refine xJ.callV (Y' := Y_VectorSolverModel_told) (o_VectorSolverModel_command 154 rfl) m_VectorSolverModel_252 y_VectorSolverModel_told im_VectorSolverModel_told se_VectorSolverModel_told rfl rfl (s_VectorSolverModel_told h) rfl rfl (Nat.le_of_ble_eq_true rfl) (fun _ hx => by cases hx) (fun v u q => ?_) (fun n u q => q)
    obtain ⟨r, rfl, h⟩ := xqi_get q
    refine xJ.istore_n (o_VectorSolverModel_command 155 rfl) (by decide) ?_
    refine xJ.aload_n (o_VectorSolverModel_command 156 rfl) rfl ?_
    refine xJ.aload_n (o_VectorSolverModel_command 157 rfl) rfl ?_
    refine xJ.getfield (o_VectorSolverModel_command 158 rfl) f_VectorSolverModel_255 rfl rfl ?_
    refine xJ.sipush (v := 500) (o_VectorSolverModel_command 159 rfl) (by decide) ?_
    refine xJ.icmp_ge (tgt := 311) (o_VectorSolverModel_command 160 rfl) (by decide) (fun z => ?_) (fun z => ?_)
    · replace h := h.1 z
      refine xJ.iconst (v := 0) (o_VectorSolverModel_command 163 rfl) (by decide) ?_
      exact xJ.lvs (by exact ⟨rfl, rfl, trivial⟩) (sw_VectorSolverModel_command_312 h)
    · replace h := h.2 z
      refine xJ.iconst (v := 1) (o_VectorSolverModel_command 161 rfl) (by decide) ?_
      refine xJ.goto (tgt := 312) (o_VectorSolverModel_command 162 rfl) (by decide) ?_
      exact xJ.lvs (by exact ⟨rfl, rfl, trivial⟩) (sw_VectorSolverModel_command_312 h)
set_option maxRecDepth 20000 in
theorem sw_VectorSolverModel_command_260 {γ : xG1} {d b0 : Nat} {Q : xO → xS → Prop} {σ : xS} (h : w_VectorSolverModel_command_260 Q  σ) : xJ (SHP, γ) Y_VectorSolverModel_command (d + 7) b0 260 [(0, .ref 50)] [] σ Q := by
  refine xJ.goto (tgt := 344) (o_VectorSolverModel_command 137 rfl) (by decide) ?_
  exact xJ.lvs (by exact ⟨rfl, trivial⟩) (sw_VectorSolverModel_command_344 h)
set_option maxRecDepth 20000 in
theorem sw_VectorSolverModel_command_224 {γ : xG1} {d b0 : Nat} {Q : xO → xS → Prop} {a1 : Int32} {σ : xS} (h : w_VectorSolverModel_command_224 Q a1 σ) : xJ (SHP, γ) Y_VectorSolverModel_command (d + 7) b0 224 [(0, .ref 50), (1, .int a1)] [] σ Q := by
  refine xJ.aload_n (o_VectorSolverModel_command 118 rfl) rfl ?_
  refine xJ.getfield (o_VectorSolverModel_command 119 rfl) f_VectorSolverModel_203 rfl rfl ?_
  refine xJ.istore_n (o_VectorSolverModel_command 120 rfl) (by decide) ?_
  replace h := h _ rfl
  refine xJ.aload_n (o_VectorSolverModel_command 121 rfl) rfl ?_
  refine xJ.getfield (o_VectorSolverModel_command 122 rfl) f_VectorSolverModel_206 rfl rfl ?_
  refine xJ.istore (o_VectorSolverModel_command 123 rfl) (by decide) ?_
  replace h := h _ rfl
  refine xJ.aload_n (o_VectorSolverModel_command 124 rfl) rfl ?_
  refine xJ.iload_n (o_VectorSolverModel_command 125 rfl) rfl ?_
  refine xJ.iload (o_VectorSolverModel_command 126 rfl) rfl ?_
  refine xJ.callV (Y' := Y_VectorSolverModel_told) (o_VectorSolverModel_command 127 rfl) m_VectorSolverModel_252 y_VectorSolverModel_told im_VectorSolverModel_told se_VectorSolverModel_told rfl rfl (s_VectorSolverModel_told h) rfl rfl (Nat.le_of_ble_eq_true rfl) (fun _ hx => by cases hx) (fun v u q => ?_) (fun n u q => q)
  obtain ⟨r, rfl, h⟩ := xqi_get q
  refine xJ.istore (o_VectorSolverModel_command 128 rfl) (by decide) ?_
  refine xJ.aload_n (o_VectorSolverModel_command 129 rfl) rfl ?_
  refine xJ.getfield (o_VectorSolverModel_command 130 rfl) f_VectorSolverModel_166 rfl rfl ?_
  refine xJ.if_ne (tgt := 260) (o_VectorSolverModel_command 131 rfl) (by decide) (fun z => ?_) (fun z => ?_)
  · replace h := h.1 z
    exact xJ.lvs (by exact ⟨rfl, trivial⟩) (sw_VectorSolverModel_command_260 h)
  · replace h := h.2 z
    refine xJ.aload_n (o_VectorSolverModel_command 132 rfl) rfl ?_
    refine xJ.iload_n (o_VectorSolverModel_command 133 rfl) rfl ?_
    refine xJ.iload (o_VectorSolverModel_command 134 rfl) rfl ?_
    refine xJ.callV (Y' := Y_VectorSolverModel_addName) (o_VectorSolverModel_command 135 rfl) m_VectorSolverModel_243 y_VectorSolverModel_addName im_VectorSolverModel_addName se_VectorSolverModel_addName rfl rfl (s_VectorSolverModel_addName h) rfl rfl (Nat.le_of_ble_eq_true rfl) (fun _ hx => by cases hx) (fun v u q => ?_) (fun n u q => q)
    obtain ⟨r, rfl, h⟩ := xqi_get q
    refine xJ.istore (o_VectorSolverModel_command 136 rfl) (by decide) ?_
    exact xJ.lvs (by exact ⟨rfl, trivial⟩) (sw_VectorSolverModel_command_260 h)
set_option maxRecDepth 20000 in
theorem sw_VectorSolverModel_command_208 {γ : xG1} {d b0 : Nat} {Q : xO → xS → Prop} {a1 : Int32} {t0 : Int32} {σ : xS} (h : w_VectorSolverModel_command_208 Q a1 t0 σ) : xJ (SHP, γ) Y_VectorSolverModel_command (d + 7) b0 208 [(0, .ref 50), (1, .int a1)] [.int t0] σ Q := by
  refine xJ.istore_n (o_VectorSolverModel_command 110 rfl) (by decide) ?_
  refine xJ.aload_n (o_VectorSolverModel_command 111 rfl) rfl ?_
  refine xJ.callV (Y' := Y_VectorSolverModel_next) (o_VectorSolverModel_command 112 rfl) m_VectorSolverModel_176 y_VectorSolverModel_next im_VectorSolverModel_next se_VectorSolverModel_next rfl rfl (s_VectorSolverModel_next h) rfl rfl (Nat.le_of_ble_eq_true rfl) (fun _ hx => by cases hx) (fun v u q => ?_) (fun n u q => q)
  obtain ⟨rfl, h⟩ := xqv_get q
  refine xJ.aload_n (o_VectorSolverModel_command 113 rfl) rfl ?_
  refine xJ.getfield (o_VectorSolverModel_command 114 rfl) f_VectorSolverModel_166 rfl rfl ?_
  refine xJ.if_ne (tgt := 224) (o_VectorSolverModel_command 115 rfl) (by decide) (fun z => ?_) (fun z => ?_)
  · replace h := h.1 z
    exact xJ.lvs (by exact ⟨rfl, rfl, trivial⟩) (sw_VectorSolverModel_command_224 h)
  · replace h := h.2 z
    refine xJ.aload_n (o_VectorSolverModel_command 116 rfl) rfl ?_
    refine xJ.callV (Y' := Y_VectorSolverModel_readSort) (o_VectorSolverModel_command 117 rfl) m_VectorSolverModel_233 y_VectorSolverModel_readSort im_VectorSolverModel_readSort se_VectorSolverModel_readSort rfl rfl (s_VectorSolverModel_readSort h) rfl rfl (Nat.le_of_ble_eq_true rfl) (fun _ hx => by cases hx) (fun v u q => ?_) (fun n u q => q)
    obtain ⟨rfl, h⟩ := xqv_get q
    exact xJ.lvs (by exact ⟨rfl, rfl, trivial⟩) (sw_VectorSolverModel_command_224 h)
set_option maxRecDepth 20000 in
theorem sw_VectorSolverModel_command_207 {γ : xG1} {d b0 : Nat} {Q : xO → xS → Prop} {a1 : Int32} {σ : xS} (h : w_VectorSolverModel_command_207 Q a1 σ) : xJ (SHP, γ) Y_VectorSolverModel_command (d + 7) b0 207 [(0, .ref 50), (1, .int a1)] [] σ Q := by
  refine xJ.iconst (v := 0) (o_VectorSolverModel_command 109 rfl) (by decide) ?_
  exact xJ.lvs (by exact ⟨rfl, rfl, trivial⟩) (sw_VectorSolverModel_command_208 h)
set_option maxRecDepth 20000 in
theorem sw_VectorSolverModel_command_165 {γ : xG1} {d b0 : Nat} {Q : xO → xS → Prop} {σ : xS} (h : w_VectorSolverModel_command_165 Q  σ) : xJ (SHP, γ) Y_VectorSolverModel_command (d + 7) b0 165 [(0, .ref 50)] [] σ Q := by
  refine xJ.goto (tgt := 344) (o_VectorSolverModel_command 88 rfl) (by decide) ?_
  exact xJ.lvs (by exact ⟨rfl, trivial⟩) (sw_VectorSolverModel_command_344 h)
set_option maxRecDepth 20000 in
theorem sw_VectorSolverModel_command_105 {γ : xG1} {d b0 : Nat} {Q : xO → xS → Prop} {a1 : Int32} {t0 : Int32} {σ : xS} (h : w_VectorSolverModel_command_105 Q a1 t0 σ) : xJ (SHP, γ) Y_VectorSolverModel_command (d + 7) b0 105 [(0, .ref 50), (1, .int a1)] [.int t0] σ Q := by
  refine xJ.istore_n (o_VectorSolverModel_command 54 rfl) (by decide) ?_
  refine xJ.aload_n (o_VectorSolverModel_command 55 rfl) rfl ?_
  refine xJ.getfield (o_VectorSolverModel_command 56 rfl) f_VectorSolverModel_166 rfl rfl ?_
  refine xJ.if_ne (tgt := 165) (o_VectorSolverModel_command 57 rfl) (by decide) (fun z => ?_) (fun z => ?_)
  · replace h := h.1 z
    exact xJ.lvs (by exact ⟨rfl, trivial⟩) (sw_VectorSolverModel_command_165 h)
  · replace h := h.2 z
    refine xJ.aload_n (o_VectorSolverModel_command 58 rfl) rfl ?_
    refine xJ.getfield (o_VectorSolverModel_command 59 rfl) f_VectorSolverModel_59 rfl rfl ?_
    refine xJ.iload_n (o_VectorSolverModel_command 60 rfl) rfl ?_
    refine xJ.aload_n (o_VectorSolverModel_command 61 rfl) rfl ?_
    refine xJ.iload_n (o_VectorSolverModel_command 62 rfl) rfl ?_
    refine xJ.iload_n (o_VectorSolverModel_command 63 rfl) rfl ?_
    refine xJ.callV (Y' := Y_VectorSolverModel_addName) (o_VectorSolverModel_command 64 rfl) m_VectorSolverModel_243 y_VectorSolverModel_addName im_VectorSolverModel_addName se_VectorSolverModel_addName rfl rfl (s_VectorSolverModel_addName h) rfl rfl (Nat.le_of_ble_eq_true rfl) (fun _ hx => by cases hx) (fun v u q => ?_) (fun n u q => q)
    obtain ⟨r, rfl, h⟩ := xqi_get q
    refine xJ.iastore (o_VectorSolverModel_command 65 rfl) rfl h.1 ?_
    replace h := h.2
    replace h := h _ rfl
    refine xJ.aload_n (o_VectorSolverModel_command 66 rfl) rfl ?_
    refine xJ.getfield (o_VectorSolverModel_command 67 rfl) f_VectorSolverModel_112 rfl rfl ?_
    refine xJ.aload_n (o_VectorSolverModel_command 68 rfl) rfl ?_
    refine xJ.getfield (o_VectorSolverModel_command 69 rfl) f_VectorSolverModel_246 rfl rfl ?_
    refine xJ.iload_n (o_VectorSolverModel_command 70 rfl) rfl ?_
    refine xJ.iastore (o_VectorSolverModel_command 71 rfl) rfl h.1 ?_
    replace h := h.2
    replace h := h _ rfl
    refine xJ.aload_n (o_VectorSolverModel_command 72 rfl) rfl ?_
    refine xJ.dup (o_VectorSolverModel_command 73 rfl) rfl ?_
    refine xJ.getfield (o_VectorSolverModel_command 74 rfl) f_VectorSolverModel_246 rfl rfl ?_
    refine xJ.iconst (v := 1) (o_VectorSolverModel_command 75 rfl) (by decide) ?_
    refine xJ.iadd (o_VectorSolverModel_command 76 rfl) ?_
    refine xJ.putI (o_VectorSolverModel_command 77 rfl) f_VectorSolverModel_246 rfl rfl rfl ?_
    replace h := h _ rfl
    refine xJ.aload_n (o_VectorSolverModel_command 78 rfl) rfl ?_
    refine xJ.dup (o_VectorSolverModel_command 79 rfl) rfl ?_
    refine xJ.getfield (o_VectorSolverModel_command 80 rfl) f_VectorSolverModel_249 rfl rfl ?_
    refine xJ.aload_n (o_VectorSolverModel_command 81 rfl) rfl ?_
    refine xJ.getfield (o_VectorSolverModel_command 82 rfl) f_VectorSolverModel_203 rfl rfl ?_
    refine xJ.aload_n (o_VectorSolverModel_command 83 rfl) rfl ?_
    refine xJ.getfield (o_VectorSolverModel_command 84 rfl) f_VectorSolverModel_206 rfl rfl ?_
    refine xJ.callS (Y' := Y_VectorSolverModel_bitsOf) (o_VectorSolverModel_command 85 rfl) m_VectorSolverModel_236 y_VectorSolverModel_bitsOf st_VectorSolverModel_bitsOf (s_VectorSolverModel_bitsOf h) rfl rfl (Nat.le_of_ble_eq_true rfl) (fun _ hx => by cases hx) (fun v u q => ?_) (fun n u q => q)
    obtain ⟨r, rfl, h⟩ := xqi_get q
    refine xJ.iadd (o_VectorSolverModel_command 86 rfl) ?_
    refine xJ.putI (o_VectorSolverModel_command 87 rfl) f_VectorSolverModel_249 rfl rfl rfl ?_
    replace h := h _ rfl
    exact xJ.lvs (by exact ⟨rfl, trivial⟩) (sw_VectorSolverModel_command_165 h)
set_option maxRecDepth 20000 in
theorem sw_VectorSolverModel_command_64 {γ : xG1} {d b0 : Nat} {Q : xO → xS → Prop} {a1 : Int32} {σ : xS} (h : w_VectorSolverModel_command_64 Q a1 σ) : xJ (SHP, γ) Y_VectorSolverModel_command (d + 7) b0 64 [(0, .ref 50), (1, .int a1)] [] σ Q := by
  refine xJ.aload_n (o_VectorSolverModel_command 33 rfl) rfl ?_
  refine xJ.getfield (o_VectorSolverModel_command 34 rfl) f_VectorSolverModel_166 rfl rfl ?_
  refine xJ.if_ne (tgt := 104) (o_VectorSolverModel_command 35 rfl) (by decide) (fun z => ?_) (fun z => ?_)
  · replace h := h.1 z
    refine xJ.iconst (v := 0) (o_VectorSolverModel_command 53 rfl) (by decide) ?_
    exact xJ.lvs (by exact ⟨rfl, rfl, trivial⟩) (sw_VectorSolverModel_command_105 h)
  · replace h := h.2 z
    refine xJ.aload_n (o_VectorSolverModel_command 36 rfl) rfl ?_
    refine xJ.iconst (v := 0) (o_VectorSolverModel_command 37 rfl) (by decide) ?_
    refine xJ.aload_n (o_VectorSolverModel_command 38 rfl) rfl ?_
    refine xJ.getfield (o_VectorSolverModel_command 39 rfl) f_VectorSolverModel_203 rfl rfl ?_
    refine xJ.aload_n (o_VectorSolverModel_command 40 rfl) rfl ?_
    refine xJ.getfield (o_VectorSolverModel_command 41 rfl) f_VectorSolverModel_206 rfl rfl ?_
    refine xJ.aload_n (o_VectorSolverModel_command 42 rfl) rfl ?_
    refine xJ.getfield (o_VectorSolverModel_command 43 rfl) f_VectorSolverModel_203 rfl rfl ?_
    refine xJ.aload_n (o_VectorSolverModel_command 44 rfl) rfl ?_
    refine xJ.getfield (o_VectorSolverModel_command 45 rfl) f_VectorSolverModel_206 rfl rfl ?_
    refine xJ.callS (Y' := Y_VectorSolverModel_bitsOf) (o_VectorSolverModel_command 46 rfl) m_VectorSolverModel_236 y_VectorSolverModel_bitsOf st_VectorSolverModel_bitsOf (s_VectorSolverModel_bitsOf h) rfl rfl (Nat.le_of_ble_eq_true rfl) (fun _ hx => by cases hx) (fun v u q => ?_) (fun n u q => q)
    obtain ⟨r, rfl, h⟩ := xqi_get q
    refine xJ.aload_n (o_VectorSolverModel_command 47 rfl) rfl ?_
    refine xJ.getfield (o_VectorSolverModel_command 48 rfl) f_VectorSolverModel_28 rfl rfl ?_
    refine xJ.iload_n (o_VectorSolverModel_command 49 rfl) rfl ?_
    refine xJ.iaload (o_VectorSolverModel_command 50 rfl) rfl h.1 ?_
    replace h := h.2
    refine xJ.callV (Y' := Y_VectorSolverModel_make) (o_VectorSolverModel_command 51 rfl) m_VectorSolverModel_239 y_VectorSolverModel_make im_VectorSolverModel_make se_VectorSolverModel_make rfl rfl (s_VectorSolverModel_make h) rfl rfl (Nat.le_of_ble_eq_true rfl) (fun _ hx => by cases hx) (fun v u q => ?_) (fun n u q => q)
    obtain ⟨r, rfl, h⟩ := xqi_get q
    refine xJ.goto (tgt := 105) (o_VectorSolverModel_command 52 rfl) (by decide) ?_
    exact xJ.lvs (by exact ⟨rfl, rfl, trivial⟩) (sw_VectorSolverModel_command_105 h)
set_option maxRecDepth 20000 in
theorem sw_VectorSolverModel_command_19 {γ : xG1} {d b0 : Nat} {Q : xO → xS → Prop} {t1 : Int32} {σ : xS} (h : w_VectorSolverModel_command_19 Q t1 σ) : xJ (SHP, γ) Y_VectorSolverModel_command (d + 7) b0 19 [(0, .ref 50)] [.int t1, .ref 50] σ Q := by
  refine xJ.callV (Y' := Y_VectorSolverModel_must) (o_VectorSolverModel_command 11 rfl) m_VectorSolverModel_179 y_VectorSolverModel_must im_VectorSolverModel_must se_VectorSolverModel_must rfl rfl (s_VectorSolverModel_must h) rfl rfl (Nat.le_of_ble_eq_true rfl) (fun _ hx => by cases hx) (fun v u q => ?_) (fun n u q => q)
  obtain ⟨r, rfl, h⟩ := xqi_get q
  refine xJ.if_ne (tgt := 26) (o_VectorSolverModel_command 12 rfl) (by decide) (fun z => ?_) (fun z => ?_)
  · replace h := h.1 z
    refine xJ.aload_n (o_VectorSolverModel_command 14 rfl) rfl ?_
    refine xJ.callV (Y' := Y_VectorSolverModel_next) (o_VectorSolverModel_command 15 rfl) m_VectorSolverModel_176 y_VectorSolverModel_next im_VectorSolverModel_next se_VectorSolverModel_next rfl rfl (s_VectorSolverModel_next h) rfl rfl (Nat.le_of_ble_eq_true rfl) (fun _ hx => by cases hx) (fun v u q => ?_) (fun n u q => q)
    obtain ⟨rfl, h⟩ := xqv_get q
    refine xJ.aload_n (o_VectorSolverModel_command 16 rfl) rfl ?_
    refine xJ.getfield (o_VectorSolverModel_command 17 rfl) f_VectorSolverModel_35 rfl rfl ?_
    refine xJ.aload_n (o_VectorSolverModel_command 18 rfl) rfl ?_
    refine xJ.getfield (o_VectorSolverModel_command 19 rfl) f_VectorSolverModel_169 rfl rfl ?_
    refine xJ.baload (o_VectorSolverModel_command 20 rfl) rfl h.1 ?_
    replace h := h.2
    refine xJ.bipush (v := 39) (o_VectorSolverModel_command 21 rfl) (by decide) ?_
    refine xJ.icmp_ne (tgt := 168) (o_VectorSolverModel_command 22 rfl) (by decide) (fun z => ?_) (fun z => ?_)
    · replace h := h.1 z
      refine xJ.aload_n (o_VectorSolverModel_command 89 rfl) rfl ?_
      refine xJ.getfield (o_VectorSolverModel_command 90 rfl) f_VectorSolverModel_35 rfl rfl ?_
      refine xJ.aload_n (o_VectorSolverModel_command 91 rfl) rfl ?_
      refine xJ.getfield (o_VectorSolverModel_command 92 rfl) f_VectorSolverModel_169 rfl rfl ?_
      refine xJ.baload (o_VectorSolverModel_command 93 rfl) rfl h.1 ?_
      replace h := h.2
      refine xJ.bipush (v := 40) (o_VectorSolverModel_command 94 rfl) (by decide) ?_
      refine xJ.icmp_ne (tgt := 263) (o_VectorSolverModel_command 95 rfl) (by decide) (fun z => ?_) (fun z => ?_)
      · replace h := h.1 z
        refine xJ.aload_n (o_VectorSolverModel_command 138 rfl) rfl ?_
        refine xJ.aload_n (o_VectorSolverModel_command 139 rfl) rfl ?_
        refine xJ.getfield (o_VectorSolverModel_command 140 rfl) f_VectorSolverModel_35 rfl rfl ?_
        refine xJ.aload_n (o_VectorSolverModel_command 141 rfl) rfl ?_
        refine xJ.getfield (o_VectorSolverModel_command 142 rfl) f_VectorSolverModel_169 rfl rfl ?_
        refine xJ.baload (o_VectorSolverModel_command 143 rfl) rfl h.1 ?_
        replace h := h.2
        refine xJ.bipush (v := 41) (o_VectorSolverModel_command 144 rfl) (by decide) ?_
        refine xJ.icmp_ne (tgt := 282) (o_VectorSolverModel_command 145 rfl) (by decide) (fun z => ?_) (fun z => ?_)
        · replace h := h.1 z
          refine xJ.iconst (v := 0) (o_VectorSolverModel_command 148 rfl) (by decide) ?_
          exact xJ.lvs (by exact ⟨rfl, trivial⟩) (sw_VectorSolverModel_command_283 h)
        · replace h := h.2 z
          refine xJ.iconst (v := 1) (o_VectorSolverModel_command 146 rfl) (by decide) ?_
          refine xJ.goto (tgt := 283) (o_VectorSolverModel_command 147 rfl) (by decide) ?_
          exact xJ.lvs (by exact ⟨rfl, trivial⟩) (sw_VectorSolverModel_command_283 h)
      · replace h := h.2 z
        refine xJ.aload_n (o_VectorSolverModel_command 96 rfl) rfl ?_
        refine xJ.callV (Y' := Y_VectorSolverModel_freshName) (o_VectorSolverModel_command 97 rfl) m_VectorSolverModel_230 y_VectorSolverModel_freshName im_VectorSolverModel_freshName se_VectorSolverModel_freshName rfl rfl (s_VectorSolverModel_freshName h) rfl rfl (Nat.le_of_ble_eq_true rfl) (fun _ hx => by cases hx) (fun v u q => ?_) (fun n u q => q)
        obtain ⟨r, rfl, h⟩ := xqi_get q
        refine xJ.istore_n (o_VectorSolverModel_command 98 rfl) (by decide) ?_
        refine xJ.aload_n (o_VectorSolverModel_command 99 rfl) rfl ?_
        refine xJ.iconst (v := 1) (o_VectorSolverModel_command 100 rfl) (by decide) ?_
        refine xJ.callV (Y' := Y_VectorSolverModel_need) (o_VectorSolverModel_command 101 rfl) m_VectorSolverModel_186 y_VectorSolverModel_need im_VectorSolverModel_need se_VectorSolverModel_need rfl rfl (s_VectorSolverModel_need h) rfl rfl (Nat.le_of_ble_eq_true rfl) (fun _ hx => by cases hx) (fun v u q => ?_) (fun n u q => q)
        obtain ⟨r, rfl, h⟩ := xqi_get q
        refine xJ.if_eq (tgt := 207) (o_VectorSolverModel_command 102 rfl) (by decide) (fun z => ?_) (fun z => ?_)
        · replace h := h.1 z
          exact xJ.lvs (by exact ⟨rfl, rfl, trivial⟩) (sw_VectorSolverModel_command_207 h)
        · replace h := h.2 z
          refine xJ.aload_n (o_VectorSolverModel_command 103 rfl) rfl ?_
          refine xJ.iconst (v := 2) (o_VectorSolverModel_command 104 rfl) (by decide) ?_
          refine xJ.callV (Y' := Y_VectorSolverModel_need) (o_VectorSolverModel_command 105 rfl) m_VectorSolverModel_186 y_VectorSolverModel_need im_VectorSolverModel_need se_VectorSolverModel_need rfl rfl (s_VectorSolverModel_need h) rfl rfl (Nat.le_of_ble_eq_true rfl) (fun _ hx => by cases hx) (fun v u q => ?_) (fun n u q => q)
          obtain ⟨r, rfl, h⟩ := xqi_get q
          refine xJ.if_eq (tgt := 207) (o_VectorSolverModel_command 106 rfl) (by decide) (fun z => ?_) (fun z => ?_)
          · replace h := h.1 z
            exact xJ.lvs (by exact ⟨rfl, rfl, trivial⟩) (sw_VectorSolverModel_command_207 h)
          · replace h := h.2 z
            refine xJ.iconst (v := 1) (o_VectorSolverModel_command 107 rfl) (by decide) ?_
            refine xJ.goto (tgt := 208) (o_VectorSolverModel_command 108 rfl) (by decide) ?_
            exact xJ.lvs (by exact ⟨rfl, rfl, trivial⟩) (sw_VectorSolverModel_command_208 h)
    · replace h := h.2 z
      refine xJ.aload_n (o_VectorSolverModel_command 23 rfl) rfl ?_
      refine xJ.callV (Y' := Y_VectorSolverModel_freshName) (o_VectorSolverModel_command 24 rfl) m_VectorSolverModel_230 y_VectorSolverModel_freshName im_VectorSolverModel_freshName se_VectorSolverModel_freshName rfl rfl (s_VectorSolverModel_freshName h) rfl rfl (Nat.le_of_ble_eq_true rfl) (fun _ hx => by cases hx) (fun v u q => ?_) (fun n u q => q)
      obtain ⟨r, rfl, h⟩ := xqi_get q
      refine xJ.istore_n (o_VectorSolverModel_command 25 rfl) (by decide) ?_
      refine xJ.aload_n (o_VectorSolverModel_command 26 rfl) rfl ?_
      refine xJ.callV (Y' := Y_VectorSolverModel_next) (o_VectorSolverModel_command 27 rfl) m_VectorSolverModel_176 y_VectorSolverModel_next im_VectorSolverModel_next se_VectorSolverModel_next rfl rfl (s_VectorSolverModel_next h) rfl rfl (Nat.le_of_ble_eq_true rfl) (fun _ hx => by cases hx) (fun v u q => ?_) (fun n u q => q)
      obtain ⟨rfl, h⟩ := xqv_get q
      refine xJ.aload_n (o_VectorSolverModel_command 28 rfl) rfl ?_
      refine xJ.getfield (o_VectorSolverModel_command 29 rfl) f_VectorSolverModel_166 rfl rfl ?_
      refine xJ.if_ne (tgt := 64) (o_VectorSolverModel_command 30 rfl) (by decide) (fun z => ?_) (fun z => ?_)
      · replace h := h.1 z
        exact xJ.lvs (by exact ⟨rfl, rfl, trivial⟩) (sw_VectorSolverModel_command_64 h)
      · replace h := h.2 z
        refine xJ.aload_n (o_VectorSolverModel_command 31 rfl) rfl ?_
        refine xJ.callV (Y' := Y_VectorSolverModel_readSort) (o_VectorSolverModel_command 32 rfl) m_VectorSolverModel_233 y_VectorSolverModel_readSort im_VectorSolverModel_readSort se_VectorSolverModel_readSort rfl rfl (s_VectorSolverModel_readSort h) rfl rfl (Nat.le_of_ble_eq_true rfl) (fun _ hx => by cases hx) (fun v u q => ?_) (fun n u q => q)
        obtain ⟨rfl, h⟩ := xqv_get q
        exact xJ.lvs (by exact ⟨rfl, rfl, trivial⟩) (sw_VectorSolverModel_command_64 h)
  · replace h := h.2 z
    exact xJ.return_ (o_VectorSolverModel_command 13 rfl) rfl h
set_option maxRecDepth 20000 in
theorem s_VectorSolverModel_command {γ : xG1} {d : Nat} {Q : xO → xS → Prop} {σ : xS}  (h : wp_VectorSolverModel_command Q σ ) : xM (SHP, γ) Y_VectorSolverModel_command (d + 7) [.ref 50] σ Q := by
  refine xM.of (by decide) (Nat.le_of_ble_eq_true rfl) ?_
  refine xJ.aload_n (o_VectorSolverModel_command 0 rfl) rfl ?_
  refine xJ.aload_n (o_VectorSolverModel_command 1 rfl) rfl ?_
  refine xJ.getfield (o_VectorSolverModel_command 2 rfl) f_VectorSolverModel_25 rfl rfl ?_
  refine xJ.aload_n (o_VectorSolverModel_command 3 rfl) rfl ?_
  refine xJ.getfield (o_VectorSolverModel_command 4 rfl) f_VectorSolverModel_169 rfl rfl ?_
  refine xJ.baload (o_VectorSolverModel_command 5 rfl) rfl h.1 ?_
  replace h := h.2
  refine xJ.iconst (v := 1) (o_VectorSolverModel_command 6 rfl) (by decide) ?_
  refine xJ.icmp_ne (tgt := 18) (o_VectorSolverModel_command 7 rfl) (by decide) (fun z => ?_) (fun z => ?_)
  · replace h := h.1 z
    refine xJ.iconst (v := 0) (o_VectorSolverModel_command 10 rfl) (by decide) ?_
    exact xJ.lvs (by exact ⟨rfl, trivial⟩) (sw_VectorSolverModel_command_19 h)
  · replace h := h.2 z
    refine xJ.iconst (v := 1) (o_VectorSolverModel_command 8 rfl) (by decide) ?_
    refine xJ.goto (tgt := 19) (o_VectorSolverModel_command 9 rfl) (by decide) ?_
    exact xJ.lvs (by exact ⟨rfl, trivial⟩) (sw_VectorSolverModel_command_19 h)
def w_VectorSolverModel_reservedOf_95 (Q : xO → xS → Prop) (K8 : Int32 → Int32 → Int32 → Int32 → Int32 → xS → Prop) : Nat → Int32 → Int32 → Int32 → Int32 → Int32 → xS → Prop
  | 0 => fun _ _ _ _ _ _ => False
  | n + 1 => fun a1 a2 a3 a4 a5 σ =>
    wp_String_charAt_902 (xqi (fun r6 u5 => ((r6 = 32 → (∀ x7 : Int32, x7 = a5 + 1 → K8 a1 a2 a3 a4 x7 u5)) ∧ (¬ r6 = 32 → (∀ x8 : Int32, x8 = a3 + 1 → w_VectorSolverModel_reservedOf_95 Q K8 n a1 a2 x8 a4 a5 u5)))) (fun n u => Q (.inr n) u)) σ a3
def w_VectorSolverModel_reservedOf_59 (Q : xO → xS → Prop) (K8 : Int32 → Int32 → Int32 → Int32 → Int32 → xS → Prop) (a1 : Int32) (a2 : Int32) (a3 : Int32) (a4 : Int32) (a5 : Int32) (a6 : Int32) (σ : xS) : Prop :=
  ((¬ (a1 + a6) = a2 → (∀ x4 : Int32, x4 = a3 + 1 → ∃ m, w_VectorSolverModel_reservedOf_95 Q K8 m a1 a2 x4 a4 a5 σ)) ∧ ((a1 + a6) = a2 → wp_String_charAt_902 (xqi (fun r10 u9 => ((¬ r10 = 32 → (∀ x11 : Int32, x11 = a3 + 1 → ∃ m, w_VectorSolverModel_reservedOf_95 Q K8 m a1 a2 x11 a4 a5 u9)) ∧ (r10 = 32 → (∀ x12 : Int32, x12 = a3 + 1 → ∃ m, w_VectorSolverModel_reservedOf_95 Q K8 m a1 a2 x12 a5 a5 u9)))) (fun n u => Q (.inr n) u)) σ ((a3 + 1) + a6)))
def w_VectorSolverModel_reservedOf_22 (Q : xO → xS → Prop) (K8 : Int32 → Int32 → Int32 → Int32 → Int32 → xS → Prop) : Nat → Int32 → Int32 → Int32 → Int32 → Int32 → Int32 → xS → Prop
  | 0 => fun _ _ _ _ _ _ _ => False
  | n + 1 => fun a1 a2 a3 a4 a5 a6 σ =>
    ((a2 ≤ (a1 + a6) → w_VectorSolverModel_reservedOf_59 Q K8 a1 a2 a3 a4 a5 a6 σ) ∧ (¬ a2 ≤ (a1 + a6) → wp_String_charAt_902 (xqi (fun r14 u13 => (vp_in (a1 + a6) 65536 ∧ ((¬ r14 = (xi u13 51 (a1 + a6).toNatClampNeg) → w_VectorSolverModel_reservedOf_59 Q K8 a1 a2 a3 a4 a5 a6 u13) ∧ (r14 = (xi u13 51 (a1 + a6).toNatClampNeg) → (∀ x15 : Int32, x15 = a6 + 1 → w_VectorSolverModel_reservedOf_22 Q K8 n a1 a2 a3 a4 a5 x15 u13))))) (fun n u => Q (.inr n) u)) σ ((a3 + 1) + a6)))
def w_VectorSolverModel_reservedOf_8 (Q : xO → xS → Prop) : Nat → Int32 → Int32 → Int32 → Int32 → Int32 → xS → Prop
  | 0 => fun _ _ _ _ _ _ => False
  | n + 1 => fun a1 a2 a3 a4 a5 σ =>
    wp_String_length_902 (xqi (fun r3 u2 => ((r3 ≤ (a3 + 1) → Q (.inl (some (.int a4))) u2) ∧ (¬ r3 ≤ (a3 + 1) → ∃ m, w_VectorSolverModel_reservedOf_22 Q (w_VectorSolverModel_reservedOf_8 Q n) m a1 a2 a3 a4 a5 0 u2))) (fun n u => Q (.inr n) u)) σ 
def wp_VectorSolverModel_reservedOf (Q : xO → xS → Prop) (σ : xS) (a1 : Int32) (a2 : Int32) : Prop :=
  (∀ x1 : Int32, x1 = (-1) → ∃ m, w_VectorSolverModel_reservedOf_8 Q m a1 a2 0 x1 2 σ)
set_option maxRecDepth 20000 in
theorem sw_VectorSolverModel_reservedOf_95 {γ : xG1} {d b0 : Nat} {Q : xO → xS → Prop} {K8 : Int32 → Int32 → Int32 → Int32 → Int32 → xS → Prop} (hK8 : ∀ a1 a2 a3 a4 a5 σ, K8 a1 a2 a3 a4 a5 σ → xJ (SHP, γ) Y_VectorSolverModel_reservedOf (d + 4) b0 8 [(0, .ref 50), (1, .int a1), (2, .int a2), (3, .int a3), (4, .int a4), (5, .int a5)] [] σ Q) : ∀ (n : Nat) (a1 : Int32) (a2 : Int32) (a3 : Int32) (a4 : Int32) (a5 : Int32) (σ : xS), w_VectorSolverModel_reservedOf_95 Q K8 n a1 a2 a3 a4 a5 σ → xJ (SHP, γ) Y_VectorSolverModel_reservedOf (d + 4) b0 95 [(0, .ref 50), (1, .int a1), (2, .int a2), (3, .int a3), (4, .int a4), (5, .int a5)] [] σ Q := by
  intro n
  induction n with
  | zero => intro a1 a2 a3 a4 a5 σ h; exact h.elim
  | succ n ih =>
    intro a1 a2 a3 a4 a5 σ h
    refine xJ.ldcS (i := 2) (o_VectorSolverModel_reservedOf 54 rfl) t_VectorSolverModel_7 ?_
    refine xJ.iload_n (o_VectorSolverModel_reservedOf 55 rfl) rfl ?_
    refine xJ.callX (Y' := Y_String_charAt) (o_VectorSolverModel_reservedOf 56 rfl) m_VectorSolverModel_148 y_String_charAt im_String_charAt se_String_charAt rfl ⟨by decide, by decide⟩ (s_String_charAt_902 h) rfl rfl (Nat.le_of_ble_eq_true rfl) (fun _ hx => by cases hx) (fun v u q => ?_) (fun n u q => q)
    obtain ⟨r, rfl, h⟩ := xqi_get q
    refine xJ.bipush (v := 32) (o_VectorSolverModel_reservedOf 57 rfl) (by decide) ?_
    refine xJ.icmp_eq (tgt := 112) (o_VectorSolverModel_reservedOf 58 rfl) (by decide) (fun z => ?_) (fun z => ?_)
    · replace h := h.1 z
      refine xJ.iincC (w := 1) (o_VectorSolverModel_reservedOf 61 rfl) rfl (by decide) (by decide) ?_
      replace h := h _ rfl
      refine xJ.goto (tgt := 8) (o_VectorSolverModel_reservedOf 62 rfl) (by decide) ?_
      exact xJ.lvs (by exact ⟨rfl, rfl, rfl, rfl, rfl, rfl, trivial⟩) (hK8 _ _ _ _ _ _ h)
    · replace h := h.2 z
      refine xJ.iincC (w := 1) (o_VectorSolverModel_reservedOf 59 rfl) rfl (by decide) (by decide) ?_
      replace h := h _ rfl
      refine xJ.goto (tgt := 95) (o_VectorSolverModel_reservedOf 60 rfl) (by decide) ?_
      exact xJ.lvs (by exact ⟨rfl, rfl, rfl, rfl, rfl, rfl, trivial⟩) (ih _ _ _ _ _ _ h)
set_option maxRecDepth 20000 in
theorem sw_VectorSolverModel_reservedOf_59 {γ : xG1} {d b0 : Nat} {Q : xO → xS → Prop} {K8 : Int32 → Int32 → Int32 → Int32 → Int32 → xS → Prop} (hK8 : ∀ a1 a2 a3 a4 a5 σ, K8 a1 a2 a3 a4 a5 σ → xJ (SHP, γ) Y_VectorSolverModel_reservedOf (d + 4) b0 8 [(0, .ref 50), (1, .int a1), (2, .int a2), (3, .int a3), (4, .int a4), (5, .int a5)] [] σ Q) {a1 : Int32} {a2 : Int32} {a3 : Int32} {a4 : Int32} {a5 : Int32} {a6 : Int32} {σ : xS} (h : w_VectorSolverModel_reservedOf_59 Q K8 a1 a2 a3 a4 a5 a6 σ) : xJ (SHP, γ) Y_VectorSolverModel_reservedOf (d + 4) b0 59 [(0, .ref 50), (1, .int a1), (2, .int a2), (3, .int a3), (4, .int a4), (5, .int a5), (6, .int a6)] [] σ Q := by
  refine xJ.iload_n (o_VectorSolverModel_reservedOf 35 rfl) rfl ?_
  refine xJ.iload (o_VectorSolverModel_reservedOf 36 rfl) rfl ?_
  refine xJ.iadd (o_VectorSolverModel_reservedOf 37 rfl) ?_
  refine xJ.iload_n (o_VectorSolverModel_reservedOf 38 rfl) rfl ?_
  refine xJ.icmp_ne (tgt := 88) (o_VectorSolverModel_reservedOf 39 rfl) (by decide) (fun z => ?_) (fun z => ?_)
  · replace h := h.1 z
    refine xJ.iload (o_VectorSolverModel_reservedOf 51 rfl) rfl ?_
    refine xJ.istore (o_VectorSolverModel_reservedOf 52 rfl) (by decide) ?_
    refine xJ.iincC (w := 1) (o_VectorSolverModel_reservedOf 53 rfl) rfl (by decide) (by decide) ?_
    replace h := h _ rfl
    obtain ⟨m, h⟩ := h
    exact xJ.lvs (by exact ⟨rfl, rfl, rfl, rfl, rfl, rfl, trivial⟩) (sw_VectorSolverModel_reservedOf_95 hK8 m _ _ _ _ _ _ h)
  · replace h := h.2 z
    refine xJ.ldcS (i := 2) (o_VectorSolverModel_reservedOf 40 rfl) t_VectorSolverModel_7 ?_
    refine xJ.iload_n (o_VectorSolverModel_reservedOf 41 rfl) rfl ?_
    refine xJ.iconst (v := 1) (o_VectorSolverModel_reservedOf 42 rfl) (by decide) ?_
    refine xJ.iadd (o_VectorSolverModel_reservedOf 43 rfl) ?_
    refine xJ.iload (o_VectorSolverModel_reservedOf 44 rfl) rfl ?_
    refine xJ.iadd (o_VectorSolverModel_reservedOf 45 rfl) ?_
    refine xJ.callX (Y' := Y_String_charAt) (o_VectorSolverModel_reservedOf 46 rfl) m_VectorSolverModel_148 y_String_charAt im_String_charAt se_String_charAt rfl ⟨by decide, by decide⟩ (s_String_charAt_902 h) rfl rfl (Nat.le_of_ble_eq_true rfl) (fun _ hx => by cases hx) (fun v u q => ?_) (fun n u q => q)
    obtain ⟨r, rfl, h⟩ := xqi_get q
    refine xJ.bipush (v := 32) (o_VectorSolverModel_reservedOf 47 rfl) (by decide) ?_
    refine xJ.icmp_ne (tgt := 88) (o_VectorSolverModel_reservedOf 48 rfl) (by decide) (fun z => ?_) (fun z => ?_)
    · replace h := h.1 z
      refine xJ.iload (o_VectorSolverModel_reservedOf 51 rfl) rfl ?_
      refine xJ.istore (o_VectorSolverModel_reservedOf 52 rfl) (by decide) ?_
      refine xJ.iincC (w := 1) (o_VectorSolverModel_reservedOf 53 rfl) rfl (by decide) (by decide) ?_
      replace h := h _ rfl
      obtain ⟨m, h⟩ := h
      exact xJ.lvs (by exact ⟨rfl, rfl, rfl, rfl, rfl, rfl, trivial⟩) (sw_VectorSolverModel_reservedOf_95 hK8 m _ _ _ _ _ _ h)
    · replace h := h.2 z
      refine xJ.iload (o_VectorSolverModel_reservedOf 49 rfl) rfl ?_
      refine xJ.goto (tgt := 90) (o_VectorSolverModel_reservedOf 50 rfl) (by decide) ?_
      refine xJ.istore (o_VectorSolverModel_reservedOf 52 rfl) (by decide) ?_
      refine xJ.iincC (w := 1) (o_VectorSolverModel_reservedOf 53 rfl) rfl (by decide) (by decide) ?_
      replace h := h _ rfl
      obtain ⟨m, h⟩ := h
      exact xJ.lvs (by exact ⟨rfl, rfl, rfl, rfl, rfl, rfl, trivial⟩) (sw_VectorSolverModel_reservedOf_95 hK8 m _ _ _ _ _ _ h)
set_option maxRecDepth 20000 in
theorem sw_VectorSolverModel_reservedOf_22 {γ : xG1} {d b0 : Nat} {Q : xO → xS → Prop} {K8 : Int32 → Int32 → Int32 → Int32 → Int32 → xS → Prop} (hK8 : ∀ a1 a2 a3 a4 a5 σ, K8 a1 a2 a3 a4 a5 σ → xJ (SHP, γ) Y_VectorSolverModel_reservedOf (d + 4) b0 8 [(0, .ref 50), (1, .int a1), (2, .int a2), (3, .int a3), (4, .int a4), (5, .int a5)] [] σ Q) : ∀ (n : Nat) (a1 : Int32) (a2 : Int32) (a3 : Int32) (a4 : Int32) (a5 : Int32) (a6 : Int32) (σ : xS), w_VectorSolverModel_reservedOf_22 Q K8 n a1 a2 a3 a4 a5 a6 σ → xJ (SHP, γ) Y_VectorSolverModel_reservedOf (d + 4) b0 22 [(0, .ref 50), (1, .int a1), (2, .int a2), (3, .int a3), (4, .int a4), (5, .int a5), (6, .int a6)] [] σ Q := by
  intro n
  induction n with
  | zero => intro a1 a2 a3 a4 a5 a6 σ h; exact h.elim
  | succ n ih =>
    intro a1 a2 a3 a4 a5 a6 σ h
    refine xJ.iload_n (o_VectorSolverModel_reservedOf 14 rfl) rfl ?_
    refine xJ.iload (o_VectorSolverModel_reservedOf 15 rfl) rfl ?_
    refine xJ.iadd (o_VectorSolverModel_reservedOf 16 rfl) ?_
    refine xJ.iload_n (o_VectorSolverModel_reservedOf 17 rfl) rfl ?_
    refine xJ.icmp_ge (tgt := 59) (o_VectorSolverModel_reservedOf 18 rfl) (by decide) (fun z => ?_) (fun z => ?_)
    · replace h := h.1 z
      exact xJ.lvs (by exact ⟨rfl, rfl, rfl, rfl, rfl, rfl, rfl, trivial⟩) (sw_VectorSolverModel_reservedOf_59 hK8 h)
    · replace h := h.2 z
      refine xJ.ldcS (i := 2) (o_VectorSolverModel_reservedOf 19 rfl) t_VectorSolverModel_7 ?_
      refine xJ.iload_n (o_VectorSolverModel_reservedOf 20 rfl) rfl ?_
      refine xJ.iconst (v := 1) (o_VectorSolverModel_reservedOf 21 rfl) (by decide) ?_
      refine xJ.iadd (o_VectorSolverModel_reservedOf 22 rfl) ?_
      refine xJ.iload (o_VectorSolverModel_reservedOf 23 rfl) rfl ?_
      refine xJ.iadd (o_VectorSolverModel_reservedOf 24 rfl) ?_
      refine xJ.callX (Y' := Y_String_charAt) (o_VectorSolverModel_reservedOf 25 rfl) m_VectorSolverModel_148 y_String_charAt im_String_charAt se_String_charAt rfl ⟨by decide, by decide⟩ (s_String_charAt_902 h) rfl rfl (Nat.le_of_ble_eq_true rfl) (fun _ hx => by cases hx) (fun v u q => ?_) (fun n u q => q)
      obtain ⟨r, rfl, h⟩ := xqi_get q
      refine xJ.aload_n (o_VectorSolverModel_reservedOf 26 rfl) rfl ?_
      refine xJ.getfield (o_VectorSolverModel_reservedOf 27 rfl) f_VectorSolverModel_16 rfl rfl ?_
      refine xJ.iload_n (o_VectorSolverModel_reservedOf 28 rfl) rfl ?_
      refine xJ.iload (o_VectorSolverModel_reservedOf 29 rfl) rfl ?_
      refine xJ.iadd (o_VectorSolverModel_reservedOf 30 rfl) ?_
      refine xJ.baload (o_VectorSolverModel_reservedOf 31 rfl) rfl h.1 ?_
      replace h := h.2
      refine xJ.icmp_ne (tgt := 59) (o_VectorSolverModel_reservedOf 32 rfl) (by decide) (fun z => ?_) (fun z => ?_)
      · replace h := h.1 z
        exact xJ.lvs (by exact ⟨rfl, rfl, rfl, rfl, rfl, rfl, rfl, trivial⟩) (sw_VectorSolverModel_reservedOf_59 hK8 h)
      · replace h := h.2 z
        refine xJ.iincC (w := 1) (o_VectorSolverModel_reservedOf 33 rfl) rfl (by decide) (by decide) ?_
        replace h := h _ rfl
        refine xJ.goto (tgt := 22) (o_VectorSolverModel_reservedOf 34 rfl) (by decide) ?_
        exact xJ.lvs (by exact ⟨rfl, rfl, rfl, rfl, rfl, rfl, rfl, trivial⟩) (ih _ _ _ _ _ _ _ h)
set_option maxRecDepth 20000 in
theorem sw_VectorSolverModel_reservedOf_8 {γ : xG1} {d b0 : Nat} {Q : xO → xS → Prop} : ∀ (n : Nat) (a1 : Int32) (a2 : Int32) (a3 : Int32) (a4 : Int32) (a5 : Int32) (σ : xS), w_VectorSolverModel_reservedOf_8 Q n a1 a2 a3 a4 a5 σ → xJ (SHP, γ) Y_VectorSolverModel_reservedOf (d + 4) b0 8 [(0, .ref 50), (1, .int a1), (2, .int a2), (3, .int a3), (4, .int a4), (5, .int a5)] [] σ Q := by
  intro n
  induction n with
  | zero => intro a1 a2 a3 a4 a5 σ h; exact h.elim
  | succ n ih =>
    intro a1 a2 a3 a4 a5 σ h
    refine xJ.iload_n (o_VectorSolverModel_reservedOf 6 rfl) rfl ?_
    refine xJ.iconst (v := 1) (o_VectorSolverModel_reservedOf 7 rfl) (by decide) ?_
    refine xJ.iadd (o_VectorSolverModel_reservedOf 8 rfl) ?_
    refine xJ.ldcS (i := 2) (o_VectorSolverModel_reservedOf 9 rfl) t_VectorSolverModel_7 ?_
    refine xJ.callX (Y' := Y_String_length) (o_VectorSolverModel_reservedOf 10 rfl) m_VectorSolverModel_142 y_String_length im_String_length se_String_length rfl ⟨by decide, by decide⟩ (s_String_length_902 h) rfl rfl (Nat.le_of_ble_eq_true rfl) (fun _ hx => by cases hx) (fun v u q => ?_) (fun n u q => q)
    obtain ⟨r, rfl, h⟩ := xqi_get q
    refine xJ.icmp_ge (tgt := 118) (o_VectorSolverModel_reservedOf 11 rfl) (by decide) (fun z => ?_) (fun z => ?_)
    · replace h := h.1 z
      refine xJ.iload (o_VectorSolverModel_reservedOf 63 rfl) rfl ?_
      exact xJ.ireturn (o_VectorSolverModel_reservedOf 64 rfl) rfl h
    · replace h := h.2 z
      refine xJ.iconst (v := 0) (o_VectorSolverModel_reservedOf 12 rfl) (by decide) ?_
      refine xJ.istore (o_VectorSolverModel_reservedOf 13 rfl) (by decide) ?_
      obtain ⟨m, h⟩ := h
      exact xJ.lvs (by exact ⟨rfl, rfl, rfl, rfl, rfl, rfl, rfl, trivial⟩) (sw_VectorSolverModel_reservedOf_22 ih m _ _ _ _ _ _ _ h)
set_option maxRecDepth 20000 in
theorem s_VectorSolverModel_reservedOf {γ : xG1} {d : Nat} {Q : xO → xS → Prop} {σ : xS} {a1 : Int32} {a2 : Int32} (h : wp_VectorSolverModel_reservedOf Q σ a1 a2) : xM (SHP, γ) Y_VectorSolverModel_reservedOf (d + 4) [.ref 50, .int a1, .int a2] σ Q := by
  refine xM.of (by decide) (Nat.le_of_ble_eq_true rfl) ?_
  refine xJ.iconst (v := 0) (o_VectorSolverModel_reservedOf 0 rfl) (by decide) ?_
  refine xJ.istore_n (o_VectorSolverModel_reservedOf 1 rfl) (by decide) ?_
  refine xJ.iconst (v := (-1)) (o_VectorSolverModel_reservedOf 2 rfl) (by decide) ?_
  refine xJ.istore (o_VectorSolverModel_reservedOf 3 rfl) (by decide) ?_
  replace h := h _ rfl
  refine xJ.iconst (v := 2) (o_VectorSolverModel_reservedOf 4 rfl) (by decide) ?_
  refine xJ.istore (o_VectorSolverModel_reservedOf 5 rfl) (by decide) ?_
  obtain ⟨m, h⟩ := h
  exact xJ.lvs (by exact ⟨rfl, rfl, rfl, rfl, rfl, rfl, trivial⟩) (sw_VectorSolverModel_reservedOf_8 m _ _ _ _ _ _ h)
def w_VectorSolverModel_kindOf_206 (Q : xO → xS → Prop) (K165 : Int32 → Int32 → Int32 → Int32 → xS → Prop) (a2 : Int32) (a4 : Int32) (a6 : Int32) (σ : xS) : Prop :=
  (∀ x10 : Int32, x10 = a6 + 1 → K165 a2 a4 1 x10 σ)
def w_VectorSolverModel_kindOf_165 (Q : xO → xS → Prop) : Nat → Int32 → Int32 → Int32 → Int32 → xS → Prop
  | 0 => fun _ _ _ _ _ => False
  | n + 1 => fun a2 a4 a5 a6 σ =>
    ((a2 ≤ a6 → ((¬ a5 = 0 → ((¬ a4 = 98 → Q (.inl (some (.int 5))) σ) ∧ (a4 = 98 → Q (.inl (some (.int 4))) σ))) ∧ (a5 = 0 → Q (.inl (some (.int (-2)))) σ))) ∧ (¬ a2 ≤ a6 → (vp_in a6 65536 ∧ wp_VectorSolverModel_digit (xqi (fun r7 u6 => ((a5 = 0 → (∀ x8 : Int32, x8 = a6 + 1 → w_VectorSolverModel_kindOf_165 Q n a2 a4 0 x8 u6)) ∧ (¬ a5 = 0 → ((r7 < 0 → (∀ x9 : Int32, x9 = a6 + 1 → w_VectorSolverModel_kindOf_165 Q n a2 a4 0 x9 u6)) ∧ (¬ r7 < 0 → ((a4 = 120 → w_VectorSolverModel_kindOf_206 Q (w_VectorSolverModel_kindOf_165 Q n) a2 a4 a6 u6) ∧ (¬ a4 = 120 → ((2 ≤ r7 → (∀ x11 : Int32, x11 = a6 + 1 → w_VectorSolverModel_kindOf_165 Q n a2 a4 0 x11 u6)) ∧ (¬ 2 ≤ r7 → w_VectorSolverModel_kindOf_206 Q (w_VectorSolverModel_kindOf_165 Q n) a2 a4 a6 u6))))))))) (fun n u => Q (.inr n) u)) σ (xi σ 51 a6.toNatClampNeg))))
def w_VectorSolverModel_kindOf_158 (Q : xO → xS → Prop) (a1 : Int32) (a2 : Int32) (a4 : Int32) (t0 : Int32) (σ : xS) : Prop :=
  (∀ x5 : Int32, x5 = (a1 + 2) → ∃ m, w_VectorSolverModel_kindOf_165 Q m a2 a4 t0 x5 σ)
def w_VectorSolverModel_kindOf_157 (Q : xO → xS → Prop) (a1 : Int32) (a2 : Int32) (a4 : Int32) (σ : xS) : Prop :=
  w_VectorSolverModel_kindOf_158 Q a1 a2 a4 0 σ
def w_VectorSolverModel_kindOf_37 (Q : xO → xS → Prop) : Nat → Int32 → Int32 → Int32 → xS → Prop
  | 0 => fun _ _ _ _ => False
  | n + 1 => fun a2 a4 a5 σ =>
    ((a2 ≤ a5 → ((a4 = 0 → Q (.inl (some (.int (-2)))) σ) ∧ (¬ a4 = 0 → Q (.inl (some (.int 3))) σ))) ∧ (¬ a2 ≤ a5 → ((a4 = 0 → (∀ x12 : Int32, x12 = a5 + 1 → w_VectorSolverModel_kindOf_37 Q n a2 0 x12 σ)) ∧ (¬ a4 = 0 → (vp_in a5 65536 ∧ wp_VectorSolverModel_isDigit (xqi (fun r14 u13 => ((r14 = 0 → (∀ x15 : Int32, x15 = a5 + 1 → w_VectorSolverModel_kindOf_37 Q n a2 0 x15 u13)) ∧ (¬ r14 = 0 → (∀ x16 : Int32, x16 = a5 + 1 → w_VectorSolverModel_kindOf_37 Q n a2 1 x16 u13)))) (fun n u => Q (.inr n) u)) σ (xi σ 51 a5.toNatClampNeg))))))
def w_VectorSolverModel_kindOf_27 (Q : xO → xS → Prop) (a1 : Int32) (a2 : Int32) (σ : xS) : Prop :=
  ∃ m, w_VectorSolverModel_kindOf_37 Q m a2 1 a1 σ
def wp_VectorSolverModel_kindOf (Q : xO → xS → Prop) (σ : xS) (a1 : Int32) (a2 : Int32) : Prop :=
  (vp_in a1 65536 ∧ (∀ x1 : Int32, x1 = (xi σ 51 a1.toNatClampNeg) → wp_VectorSolverModel_isDigit (xqi (fun r3 u2 => ((r3 = 0 → ((x1 = 35 → (((a1 + 3) ≤ a2 → (vp_in (a1 + 1) 65536 ∧ (∀ x4 : Int32, x4 = (xi u2 51 (a1 + 1).toNatClampNeg) → ((¬ x4 = 98 → ((¬ x4 = 120 → w_VectorSolverModel_kindOf_157 Q a1 a2 x4 u2) ∧ (x4 = 120 → ((18 < (a2 - a1) → w_VectorSolverModel_kindOf_157 Q a1 a2 x4 u2) ∧ (¬ 18 < (a2 - a1) → w_VectorSolverModel_kindOf_158 Q a1 a2 x4 1 u2))))) ∧ (x4 = 98 → ((66 < (a2 - a1) → w_VectorSolverModel_kindOf_158 Q a1 a2 x4 0 u2) ∧ (¬ 66 < (a2 - a1) → w_VectorSolverModel_kindOf_158 Q a1 a2 x4 1 u2))))))) ∧ (¬ (a1 + 3) ≤ a2 → Q (.inl (some (.int (-2)))) u2))) ∧ (¬ x1 = 35 → Q (.inl (some (.int 6))) u2))) ∧ (¬ r3 = 0 → ((¬ x1 = 48 → w_VectorSolverModel_kindOf_27 Q a1 a2 u2) ∧ (x1 = 48 → ((¬ a2 = (a1 + 1) → ∃ m, w_VectorSolverModel_kindOf_37 Q m a2 0 a1 u2) ∧ (a2 = (a1 + 1) → w_VectorSolverModel_kindOf_27 Q a1 a2 u2))))))) (fun n u => Q (.inr n) u)) σ x1))
set_option maxRecDepth 20000 in
theorem sw_VectorSolverModel_kindOf_206 {γ : xG1} {d b0 : Nat} {Q : xO → xS → Prop} {K165 : Int32 → Int32 → Int32 → Int32 → xS → Prop} (hK165 : ∀ a2 a4 a5 a6 σ, K165 a2 a4 a5 a6 σ → xJ (SHP, γ) Y_VectorSolverModel_kindOf (d + 2) b0 165 [(0, .ref 50), (2, .int a2), (4, .int a4), (5, .int a5), (6, .int a6)] [] σ Q) {a2 : Int32} {a4 : Int32} {a6 : Int32} {σ : xS} (h : w_VectorSolverModel_kindOf_206 Q K165 a2 a4 a6 σ) : xJ (SHP, γ) Y_VectorSolverModel_kindOf (d + 2) b0 206 [(0, .ref 50), (2, .int a2), (4, .int a4), (6, .int a6)] [] σ Q := by
  refine xJ.iconst (v := 1) (o_VectorSolverModel_kindOf 111 rfl) (by decide) ?_
  refine xJ.goto (tgt := 211) (o_VectorSolverModel_kindOf 112 rfl) (by decide) ?_
  refine xJ.istore (o_VectorSolverModel_kindOf 114 rfl) (by decide) ?_
  refine xJ.iincC (w := 1) (o_VectorSolverModel_kindOf 115 rfl) rfl (by decide) (by decide) ?_
  replace h := h _ rfl
  refine xJ.goto (tgt := 165) (o_VectorSolverModel_kindOf 116 rfl) (by decide) ?_
  exact xJ.lvs (by exact ⟨rfl, rfl, rfl, rfl, rfl, trivial⟩) (hK165 _ _ _ _ _ h)
set_option maxRecDepth 20000 in
theorem sw_VectorSolverModel_kindOf_165 {γ : xG1} {d b0 : Nat} {Q : xO → xS → Prop} : ∀ (n : Nat) (a2 : Int32) (a4 : Int32) (a5 : Int32) (a6 : Int32) (σ : xS), w_VectorSolverModel_kindOf_165 Q n a2 a4 a5 a6 σ → xJ (SHP, γ) Y_VectorSolverModel_kindOf (d + 2) b0 165 [(0, .ref 50), (2, .int a2), (4, .int a4), (5, .int a5), (6, .int a6)] [] σ Q := by
  intro n
  induction n with
  | zero => intro a2 a4 a5 a6 σ h; exact h.elim
  | succ n ih =>
    intro a2 a4 a5 a6 σ h
    refine xJ.iload (o_VectorSolverModel_kindOf 92 rfl) rfl ?_
    refine xJ.iload_n (o_VectorSolverModel_kindOf 93 rfl) rfl ?_
    refine xJ.icmp_ge (tgt := 219) (o_VectorSolverModel_kindOf 94 rfl) (by decide) (fun z => ?_) (fun z => ?_)
    · replace h := h.1 z
      refine xJ.iload (o_VectorSolverModel_kindOf 117 rfl) rfl ?_
      refine xJ.if_ne (tgt := 229) (o_VectorSolverModel_kindOf 118 rfl) (by decide) (fun z => ?_) (fun z => ?_)
      · replace h := h.1 z
        refine xJ.iload (o_VectorSolverModel_kindOf 121 rfl) rfl ?_
        refine xJ.bipush (v := 98) (o_VectorSolverModel_kindOf 122 rfl) (by decide) ?_
        refine xJ.icmp_ne (tgt := 240) (o_VectorSolverModel_kindOf 123 rfl) (by decide) (fun z => ?_) (fun z => ?_)
        · replace h := h.1 z
          refine xJ.iconst (v := 5) (o_VectorSolverModel_kindOf 126 rfl) (by decide) ?_
          exact xJ.ireturn (o_VectorSolverModel_kindOf 127 rfl) rfl h
        · replace h := h.2 z
          refine xJ.iconst (v := 4) (o_VectorSolverModel_kindOf 124 rfl) (by decide) ?_
          refine xJ.goto (tgt := 241) (o_VectorSolverModel_kindOf 125 rfl) (by decide) ?_
          exact xJ.ireturn (o_VectorSolverModel_kindOf 127 rfl) rfl h
      · replace h := h.2 z
        refine xJ.bipush (v := (-2)) (o_VectorSolverModel_kindOf 119 rfl) (by decide) ?_
        refine xJ.goto (tgt := 241) (o_VectorSolverModel_kindOf 120 rfl) (by decide) ?_
        exact xJ.ireturn (o_VectorSolverModel_kindOf 127 rfl) rfl h
    · replace h := h.2 z
      refine xJ.aload_n (o_VectorSolverModel_kindOf 95 rfl) rfl ?_
      refine xJ.getfield (o_VectorSolverModel_kindOf 96 rfl) f_VectorSolverModel_16 rfl rfl ?_
      refine xJ.iload (o_VectorSolverModel_kindOf 97 rfl) rfl ?_
      refine xJ.baload (o_VectorSolverModel_kindOf 98 rfl) rfl h.1 ?_
      replace h := h.2
      refine xJ.callS (Y' := Y_VectorSolverModel_digit) (o_VectorSolverModel_kindOf 99 rfl) m_VectorSolverModel_152 y_VectorSolverModel_digit st_VectorSolverModel_digit (s_VectorSolverModel_digit h) rfl rfl (Nat.le_of_ble_eq_true rfl) (fun _ hx => by cases hx) (fun v u q => ?_) (fun n u q => q)
      obtain ⟨r, rfl, h⟩ := xqi_get q
      refine xJ.istore (o_VectorSolverModel_kindOf 100 rfl) (by decide) ?_
      refine xJ.iload (o_VectorSolverModel_kindOf 101 rfl) rfl ?_
      refine xJ.if_eq (tgt := 210) (o_VectorSolverModel_kindOf 102 rfl) (by decide) (fun z => ?_) (fun z => ?_)
      · replace h := h.1 z
        refine xJ.iconst (v := 0) (o_VectorSolverModel_kindOf 113 rfl) (by decide) ?_
        refine xJ.istore (o_VectorSolverModel_kindOf 114 rfl) (by decide) ?_
        refine xJ.iincC (w := 1) (o_VectorSolverModel_kindOf 115 rfl) rfl (by decide) (by decide) ?_
        replace h := h _ rfl
        refine xJ.goto (tgt := 165) (o_VectorSolverModel_kindOf 116 rfl) (by decide) ?_
        exact xJ.lvs (by exact ⟨rfl, rfl, rfl, rfl, rfl, trivial⟩) (ih _ _ _ _ _ h)
      · replace h := h.2 z
        refine xJ.iload (o_VectorSolverModel_kindOf 103 rfl) rfl ?_
        refine xJ.if_lt (tgt := 210) (o_VectorSolverModel_kindOf 104 rfl) (by decide) (fun z => ?_) (fun z => ?_)
        · replace h := h.1 z
          refine xJ.iconst (v := 0) (o_VectorSolverModel_kindOf 113 rfl) (by decide) ?_
          refine xJ.istore (o_VectorSolverModel_kindOf 114 rfl) (by decide) ?_
          refine xJ.iincC (w := 1) (o_VectorSolverModel_kindOf 115 rfl) rfl (by decide) (by decide) ?_
          replace h := h _ rfl
          refine xJ.goto (tgt := 165) (o_VectorSolverModel_kindOf 116 rfl) (by decide) ?_
          exact xJ.lvs (by exact ⟨rfl, rfl, rfl, rfl, rfl, trivial⟩) (ih _ _ _ _ _ h)
        · replace h := h.2 z
          refine xJ.iload (o_VectorSolverModel_kindOf 105 rfl) rfl ?_
          refine xJ.bipush (v := 120) (o_VectorSolverModel_kindOf 106 rfl) (by decide) ?_
          refine xJ.icmp_eq (tgt := 206) (o_VectorSolverModel_kindOf 107 rfl) (by decide) (fun z => ?_) (fun z => ?_)
          · replace h := h.1 z
            exact xJ.lvs (by exact ⟨rfl, rfl, rfl, rfl, trivial⟩) (sw_VectorSolverModel_kindOf_206 ih h)
          · replace h := h.2 z
            refine xJ.iload (o_VectorSolverModel_kindOf 108 rfl) rfl ?_
            refine xJ.iconst (v := 2) (o_VectorSolverModel_kindOf 109 rfl) (by decide) ?_
            refine xJ.icmp_ge (tgt := 210) (o_VectorSolverModel_kindOf 110 rfl) (by decide) (fun z => ?_) (fun z => ?_)
            · replace h := h.1 z
              refine xJ.iconst (v := 0) (o_VectorSolverModel_kindOf 113 rfl) (by decide) ?_
              refine xJ.istore (o_VectorSolverModel_kindOf 114 rfl) (by decide) ?_
              refine xJ.iincC (w := 1) (o_VectorSolverModel_kindOf 115 rfl) rfl (by decide) (by decide) ?_
              replace h := h _ rfl
              refine xJ.goto (tgt := 165) (o_VectorSolverModel_kindOf 116 rfl) (by decide) ?_
              exact xJ.lvs (by exact ⟨rfl, rfl, rfl, rfl, rfl, trivial⟩) (ih _ _ _ _ _ h)
            · replace h := h.2 z
              exact xJ.lvs (by exact ⟨rfl, rfl, rfl, rfl, trivial⟩) (sw_VectorSolverModel_kindOf_206 ih h)
set_option maxRecDepth 20000 in
theorem sw_VectorSolverModel_kindOf_158 {γ : xG1} {d b0 : Nat} {Q : xO → xS → Prop} {a1 : Int32} {a2 : Int32} {a4 : Int32} {t0 : Int32} {σ : xS} (h : w_VectorSolverModel_kindOf_158 Q a1 a2 a4 t0 σ) : xJ (SHP, γ) Y_VectorSolverModel_kindOf (d + 2) b0 158 [(0, .ref 50), (1, .int a1), (2, .int a2), (4, .int a4)] [.int t0] σ Q := by
  refine xJ.istore (o_VectorSolverModel_kindOf 87 rfl) (by decide) ?_
  refine xJ.iload_n (o_VectorSolverModel_kindOf 88 rfl) rfl ?_
  refine xJ.iconst (v := 2) (o_VectorSolverModel_kindOf 89 rfl) (by decide) ?_
  refine xJ.iadd (o_VectorSolverModel_kindOf 90 rfl) ?_
  refine xJ.istore (o_VectorSolverModel_kindOf 91 rfl) (by decide) ?_
  replace h := h _ rfl
  obtain ⟨m, h⟩ := h
  exact xJ.lvs (by exact ⟨rfl, rfl, rfl, rfl, rfl, trivial⟩) (sw_VectorSolverModel_kindOf_165 m _ _ _ _ _ h)
set_option maxRecDepth 20000 in
theorem sw_VectorSolverModel_kindOf_157 {γ : xG1} {d b0 : Nat} {Q : xO → xS → Prop} {a1 : Int32} {a2 : Int32} {a4 : Int32} {σ : xS} (h : w_VectorSolverModel_kindOf_157 Q a1 a2 a4 σ) : xJ (SHP, γ) Y_VectorSolverModel_kindOf (d + 2) b0 157 [(0, .ref 50), (1, .int a1), (2, .int a2), (4, .int a4)] [] σ Q := by
  refine xJ.iconst (v := 0) (o_VectorSolverModel_kindOf 86 rfl) (by decide) ?_
  exact xJ.lvs (by exact ⟨rfl, rfl, rfl, rfl, trivial⟩) (sw_VectorSolverModel_kindOf_158 h)
set_option maxRecDepth 20000 in
theorem sw_VectorSolverModel_kindOf_37 {γ : xG1} {d b0 : Nat} {Q : xO → xS → Prop} : ∀ (n : Nat) (a2 : Int32) (a4 : Int32) (a5 : Int32) (σ : xS), w_VectorSolverModel_kindOf_37 Q n a2 a4 a5 σ → xJ (SHP, γ) Y_VectorSolverModel_kindOf (d + 2) b0 37 [(0, .ref 50), (2, .int a2), (4, .int a4), (5, .int a5)] [] σ Q := by
  intro n
  induction n with
  | zero => intro a2 a4 a5 σ h; exact h.elim
  | succ n ih =>
    intro a2 a4 a5 σ h
    refine xJ.iload (o_VectorSolverModel_kindOf 22 rfl) rfl ?_
    refine xJ.iload_n (o_VectorSolverModel_kindOf 23 rfl) rfl ?_
    refine xJ.icmp_ge (tgt := 74) (o_VectorSolverModel_kindOf 24 rfl) (by decide) (fun z => ?_) (fun z => ?_)
    · replace h := h.1 z
      refine xJ.iload (o_VectorSolverModel_kindOf 39 rfl) rfl ?_
      refine xJ.if_eq (tgt := 83) (o_VectorSolverModel_kindOf 40 rfl) (by decide) (fun z => ?_) (fun z => ?_)
      · replace h := h.1 z
        refine xJ.bipush (v := (-2)) (o_VectorSolverModel_kindOf 43 rfl) (by decide) ?_
        exact xJ.ireturn (o_VectorSolverModel_kindOf 44 rfl) rfl h
      · replace h := h.2 z
        refine xJ.iconst (v := 3) (o_VectorSolverModel_kindOf 41 rfl) (by decide) ?_
        refine xJ.goto (tgt := 85) (o_VectorSolverModel_kindOf 42 rfl) (by decide) ?_
        exact xJ.ireturn (o_VectorSolverModel_kindOf 44 rfl) rfl h
    · replace h := h.2 z
      refine xJ.iload (o_VectorSolverModel_kindOf 25 rfl) rfl ?_
      refine xJ.if_eq (tgt := 65) (o_VectorSolverModel_kindOf 26 rfl) (by decide) (fun z => ?_) (fun z => ?_)
      · replace h := h.1 z
        refine xJ.iconst (v := 0) (o_VectorSolverModel_kindOf 35 rfl) (by decide) ?_
        refine xJ.istore (o_VectorSolverModel_kindOf 36 rfl) (by decide) ?_
        refine xJ.iincC (w := 1) (o_VectorSolverModel_kindOf 37 rfl) rfl (by decide) (by decide) ?_
        replace h := h _ rfl
        refine xJ.goto (tgt := 37) (o_VectorSolverModel_kindOf 38 rfl) (by decide) ?_
        exact xJ.lvs (by exact ⟨rfl, rfl, rfl, rfl, trivial⟩) (ih _ _ _ _ h)
      · replace h := h.2 z
        refine xJ.aload_n (o_VectorSolverModel_kindOf 27 rfl) rfl ?_
        refine xJ.getfield (o_VectorSolverModel_kindOf 28 rfl) f_VectorSolverModel_16 rfl rfl ?_
        refine xJ.iload (o_VectorSolverModel_kindOf 29 rfl) rfl ?_
        refine xJ.baload (o_VectorSolverModel_kindOf 30 rfl) rfl h.1 ?_
        replace h := h.2
        refine xJ.callS (Y' := Y_VectorSolverModel_isDigit) (o_VectorSolverModel_kindOf 31 rfl) m_VectorSolverModel_136 y_VectorSolverModel_isDigit st_VectorSolverModel_isDigit (s_VectorSolverModel_isDigit h) rfl rfl (Nat.le_of_ble_eq_true rfl) (fun _ hx => by cases hx) (fun v u q => ?_) (fun n u q => q)
        obtain ⟨r, rfl, h⟩ := xqi_get q
        refine xJ.if_eq (tgt := 65) (o_VectorSolverModel_kindOf 32 rfl) (by decide) (fun z => ?_) (fun z => ?_)
        · replace h := h.1 z
          refine xJ.iconst (v := 0) (o_VectorSolverModel_kindOf 35 rfl) (by decide) ?_
          refine xJ.istore (o_VectorSolverModel_kindOf 36 rfl) (by decide) ?_
          refine xJ.iincC (w := 1) (o_VectorSolverModel_kindOf 37 rfl) rfl (by decide) (by decide) ?_
          replace h := h _ rfl
          refine xJ.goto (tgt := 37) (o_VectorSolverModel_kindOf 38 rfl) (by decide) ?_
          exact xJ.lvs (by exact ⟨rfl, rfl, rfl, rfl, trivial⟩) (ih _ _ _ _ h)
        · replace h := h.2 z
          refine xJ.iconst (v := 1) (o_VectorSolverModel_kindOf 33 rfl) (by decide) ?_
          refine xJ.goto (tgt := 66) (o_VectorSolverModel_kindOf 34 rfl) (by decide) ?_
          refine xJ.istore (o_VectorSolverModel_kindOf 36 rfl) (by decide) ?_
          refine xJ.iincC (w := 1) (o_VectorSolverModel_kindOf 37 rfl) rfl (by decide) (by decide) ?_
          replace h := h _ rfl
          refine xJ.goto (tgt := 37) (o_VectorSolverModel_kindOf 38 rfl) (by decide) ?_
          exact xJ.lvs (by exact ⟨rfl, rfl, rfl, rfl, trivial⟩) (ih _ _ _ _ h)
set_option maxRecDepth 20000 in
theorem sw_VectorSolverModel_kindOf_27 {γ : xG1} {d b0 : Nat} {Q : xO → xS → Prop} {a1 : Int32} {a2 : Int32} {σ : xS} (h : w_VectorSolverModel_kindOf_27 Q a1 a2 σ) : xJ (SHP, γ) Y_VectorSolverModel_kindOf (d + 2) b0 27 [(0, .ref 50), (1, .int a1), (2, .int a2)] [] σ Q := by
  refine xJ.iconst (v := 1) (o_VectorSolverModel_kindOf 16 rfl) (by decide) ?_
  refine xJ.goto (tgt := 32) (o_VectorSolverModel_kindOf 17 rfl) (by decide) ?_
  refine xJ.istore (o_VectorSolverModel_kindOf 19 rfl) (by decide) ?_
  refine xJ.iload_n (o_VectorSolverModel_kindOf 20 rfl) rfl ?_
  refine xJ.istore (o_VectorSolverModel_kindOf 21 rfl) (by decide) ?_
  obtain ⟨m, h⟩ := h
  exact xJ.lvs (by exact ⟨rfl, rfl, rfl, rfl, trivial⟩) (sw_VectorSolverModel_kindOf_37 m _ _ _ _ h)
set_option maxRecDepth 20000 in
theorem s_VectorSolverModel_kindOf {γ : xG1} {d : Nat} {Q : xO → xS → Prop} {σ : xS} {a1 : Int32} {a2 : Int32} (h : wp_VectorSolverModel_kindOf Q σ a1 a2) : xM (SHP, γ) Y_VectorSolverModel_kindOf (d + 2) [.ref 50, .int a1, .int a2] σ Q := by
  refine xM.of (by decide) (Nat.le_of_ble_eq_true rfl) ?_
  refine xJ.aload_n (o_VectorSolverModel_kindOf 0 rfl) rfl ?_
  refine xJ.getfield (o_VectorSolverModel_kindOf 1 rfl) f_VectorSolverModel_16 rfl rfl ?_
  refine xJ.iload_n (o_VectorSolverModel_kindOf 2 rfl) rfl ?_
  refine xJ.baload (o_VectorSolverModel_kindOf 3 rfl) rfl h.1 ?_
  replace h := h.2
  refine xJ.istore_n (o_VectorSolverModel_kindOf 4 rfl) (by decide) ?_
  replace h := h _ rfl
  refine xJ.iload_n (o_VectorSolverModel_kindOf 5 rfl) rfl ?_
  refine xJ.callS (Y' := Y_VectorSolverModel_isDigit) (o_VectorSolverModel_kindOf 6 rfl) m_VectorSolverModel_136 y_VectorSolverModel_isDigit st_VectorSolverModel_isDigit (s_VectorSolverModel_isDigit h) rfl rfl (Nat.le_of_ble_eq_true rfl) (fun _ hx => by cases hx) (fun v u q => ?_) (fun n u q => q)
  obtain ⟨r, rfl, h⟩ := xqi_get q
  refine xJ.if_eq (tgt := 86) (o_VectorSolverModel_kindOf 7 rfl) (by decide) (fun z => ?_) (fun z => ?_)
  · replace h := h.1 z
    refine xJ.iload_n (o_VectorSolverModel_kindOf 45 rfl) rfl ?_
    refine xJ.bipush (v := 35) (o_VectorSolverModel_kindOf 46 rfl) (by decide) ?_
    refine xJ.icmp_eq (tgt := 95) (o_VectorSolverModel_kindOf 47 rfl) (by decide) (fun z => ?_) (fun z => ?_)
    · replace h := h.1 z
      refine xJ.iload_n (o_VectorSolverModel_kindOf 50 rfl) rfl ?_
      refine xJ.iload_n (o_VectorSolverModel_kindOf 51 rfl) rfl ?_
      refine xJ.iconst (v := 3) (o_VectorSolverModel_kindOf 52 rfl) (by decide) ?_
      refine xJ.iadd (o_VectorSolverModel_kindOf 53 rfl) ?_
      refine xJ.icmp_ge (tgt := 105) (o_VectorSolverModel_kindOf 54 rfl) (by decide) (fun z => ?_) (fun z => ?_)
      · replace h := h.1 z
        refine xJ.aload_n (o_VectorSolverModel_kindOf 57 rfl) rfl ?_
        refine xJ.getfield (o_VectorSolverModel_kindOf 58 rfl) f_VectorSolverModel_16 rfl rfl ?_
        refine xJ.iload_n (o_VectorSolverModel_kindOf 59 rfl) rfl ?_
        refine xJ.iconst (v := 1) (o_VectorSolverModel_kindOf 60 rfl) (by decide) ?_
        refine xJ.iadd (o_VectorSolverModel_kindOf 61 rfl) ?_
        refine xJ.baload (o_VectorSolverModel_kindOf 62 rfl) rfl h.1 ?_
        replace h := h.2
        refine xJ.istore (o_VectorSolverModel_kindOf 63 rfl) (by decide) ?_
        replace h := h _ rfl
        refine xJ.iload (o_VectorSolverModel_kindOf 64 rfl) rfl ?_
        refine xJ.bipush (v := 98) (o_VectorSolverModel_kindOf 65 rfl) (by decide) ?_
        refine xJ.icmp_ne (tgt := 138) (o_VectorSolverModel_kindOf 66 rfl) (by decide) (fun z => ?_) (fun z => ?_)
        · replace h := h.1 z
          refine xJ.iload (o_VectorSolverModel_kindOf 76 rfl) rfl ?_
          refine xJ.bipush (v := 120) (o_VectorSolverModel_kindOf 77 rfl) (by decide) ?_
          refine xJ.icmp_ne (tgt := 157) (o_VectorSolverModel_kindOf 78 rfl) (by decide) (fun z => ?_) (fun z => ?_)
          · replace h := h.1 z
            exact xJ.lvs (by exact ⟨rfl, rfl, rfl, rfl, trivial⟩) (sw_VectorSolverModel_kindOf_157 h)
          · replace h := h.2 z
            refine xJ.iload_n (o_VectorSolverModel_kindOf 79 rfl) rfl ?_
            refine xJ.iload_n (o_VectorSolverModel_kindOf 80 rfl) rfl ?_
            refine xJ.isub (o_VectorSolverModel_kindOf 81 rfl) ?_
            refine xJ.bipush (v := 18) (o_VectorSolverModel_kindOf 82 rfl) (by decide) ?_
            refine xJ.icmp_gt (tgt := 157) (o_VectorSolverModel_kindOf 83 rfl) (by decide) (fun z => ?_) (fun z => ?_)
            · replace h := h.1 z
              exact xJ.lvs (by exact ⟨rfl, rfl, rfl, rfl, trivial⟩) (sw_VectorSolverModel_kindOf_157 h)
            · replace h := h.2 z
              refine xJ.iconst (v := 1) (o_VectorSolverModel_kindOf 84 rfl) (by decide) ?_
              refine xJ.goto (tgt := 158) (o_VectorSolverModel_kindOf 85 rfl) (by decide) ?_
              exact xJ.lvs (by exact ⟨rfl, rfl, rfl, rfl, trivial⟩) (sw_VectorSolverModel_kindOf_158 h)
        · replace h := h.2 z
          refine xJ.iload_n (o_VectorSolverModel_kindOf 67 rfl) rfl ?_
          refine xJ.iload_n (o_VectorSolverModel_kindOf 68 rfl) rfl ?_
          refine xJ.isub (o_VectorSolverModel_kindOf 69 rfl) ?_
          refine xJ.bipush (v := 66) (o_VectorSolverModel_kindOf 70 rfl) (by decide) ?_
          refine xJ.icmp_gt (tgt := 134) (o_VectorSolverModel_kindOf 71 rfl) (by decide) (fun z => ?_) (fun z => ?_)
          · replace h := h.1 z
            refine xJ.iconst (v := 0) (o_VectorSolverModel_kindOf 74 rfl) (by decide) ?_
            refine xJ.goto (tgt := 158) (o_VectorSolverModel_kindOf 75 rfl) (by decide) ?_
            exact xJ.lvs (by exact ⟨rfl, rfl, rfl, rfl, trivial⟩) (sw_VectorSolverModel_kindOf_158 h)
          · replace h := h.2 z
            refine xJ.iconst (v := 1) (o_VectorSolverModel_kindOf 72 rfl) (by decide) ?_
            refine xJ.goto (tgt := 158) (o_VectorSolverModel_kindOf 73 rfl) (by decide) ?_
            exact xJ.lvs (by exact ⟨rfl, rfl, rfl, rfl, trivial⟩) (sw_VectorSolverModel_kindOf_158 h)
      · replace h := h.2 z
        refine xJ.bipush (v := (-2)) (o_VectorSolverModel_kindOf 55 rfl) (by decide) ?_
        exact xJ.ireturn (o_VectorSolverModel_kindOf 56 rfl) rfl h
    · replace h := h.2 z
      refine xJ.bipush (v := 6) (o_VectorSolverModel_kindOf 48 rfl) (by decide) ?_
      exact xJ.ireturn (o_VectorSolverModel_kindOf 49 rfl) rfl h
  · replace h := h.2 z
    refine xJ.iload_n (o_VectorSolverModel_kindOf 8 rfl) rfl ?_
    refine xJ.bipush (v := 48) (o_VectorSolverModel_kindOf 9 rfl) (by decide) ?_
    refine xJ.icmp_ne (tgt := 27) (o_VectorSolverModel_kindOf 10 rfl) (by decide) (fun z => ?_) (fun z => ?_)
    · replace h := h.1 z
      exact xJ.lvs (by exact ⟨rfl, rfl, rfl, trivial⟩) (sw_VectorSolverModel_kindOf_27 h)
    · replace h := h.2 z
      refine xJ.iload_n (o_VectorSolverModel_kindOf 11 rfl) rfl ?_
      refine xJ.iload_n (o_VectorSolverModel_kindOf 12 rfl) rfl ?_
      refine xJ.iconst (v := 1) (o_VectorSolverModel_kindOf 13 rfl) (by decide) ?_
      refine xJ.iadd (o_VectorSolverModel_kindOf 14 rfl) ?_
      refine xJ.icmp_ne (tgt := 31) (o_VectorSolverModel_kindOf 15 rfl) (by decide) (fun z => ?_) (fun z => ?_)
      · replace h := h.1 z
        refine xJ.iconst (v := 0) (o_VectorSolverModel_kindOf 18 rfl) (by decide) ?_
        refine xJ.istore (o_VectorSolverModel_kindOf 19 rfl) (by decide) ?_
        refine xJ.iload_n (o_VectorSolverModel_kindOf 20 rfl) rfl ?_
        refine xJ.istore (o_VectorSolverModel_kindOf 21 rfl) (by decide) ?_
        obtain ⟨m, h⟩ := h
        exact xJ.lvs (by exact ⟨rfl, rfl, rfl, rfl, trivial⟩) (sw_VectorSolverModel_kindOf_37 m _ _ _ _ h)
      · replace h := h.2 z
        exact xJ.lvs (by exact ⟨rfl, rfl, rfl, trivial⟩) (sw_VectorSolverModel_kindOf_27 h)
def w_VectorSolverModel_isWord_61 (Q : xO → xS → Prop) (K40 : Int32 → Int32 → Int32 → xS → Prop) (a0 : Int32) (a3 : Int32) (σ : xS) : Prop :=
  (∀ x5 : Int32, x5 = a3 + 1 → K40 a0 1 x5 σ)
def w_VectorSolverModel_isWord_40 (Q : xO → xS → Prop) : Nat → Int32 → Int32 → Int32 → xS → Prop
  | 0 => fun _ _ _ _ => False
  | n + 1 => fun a0 a2 a3 σ =>
    wp_String_length_901 (xqi (fun r4 u3 => ((r4 ≤ a3 → ((a2 = 0 ∨ a2 = 1) ∧ Q (.inl (some (.int a2))) u3)) ∧ (¬ r4 ≤ a3 → ((¬ a2 = 0 → w_VectorSolverModel_isWord_61 Q (w_VectorSolverModel_isWord_40 Q n) a0 a3 u3) ∧ (a2 = 0 → wp_String_charAt_901 (xqi (fun r7 u6 => ((¬ r7 = a0 → (∀ x8 : Int32, x8 = a3 + 1 → w_VectorSolverModel_isWord_40 Q n a0 0 x8 u6)) ∧ (r7 = a0 → w_VectorSolverModel_isWord_61 Q (w_VectorSolverModel_isWord_40 Q n) a0 a3 u6))) (fun n u => Q (.inr n) u)) u3 a3))))) (fun n u => Q (.inr n) u)) σ 
def w_VectorSolverModel_isWord_33 (Q : xO → xS → Prop) (a0 : Int32) (σ : xS) : Prop :=
  ∃ m, w_VectorSolverModel_isWord_40 Q m a0 0 0 σ
def w_VectorSolverModel_isWord_19 (Q : xO → xS → Prop) (a0 : Int32) (σ : xS) : Prop :=
  ((a0 < 97 → w_VectorSolverModel_isWord_33 Q a0 σ) ∧ (¬ a0 < 97 → ((122 < a0 → w_VectorSolverModel_isWord_33 Q a0 σ) ∧ (¬ 122 < a0 → Q (.inl (some (.int 1))) σ))))
def wp_VectorSolverModel_isWord (Q : xO → xS → Prop) (σ : xS) (a0 : Int32) : Prop :=
  wp_VectorSolverModel_isDigit (xqi (fun r2 u1 => ((¬ r2 = 0 → Q (.inl (some (.int 1))) u1) ∧ (r2 = 0 → ((a0 < 65 → w_VectorSolverModel_isWord_19 Q a0 u1) ∧ (¬ a0 < 65 → ((a0 ≤ 90 → Q (.inl (some (.int 1))) u1) ∧ (¬ a0 ≤ 90 → w_VectorSolverModel_isWord_19 Q a0 u1))))))) (fun n u => Q (.inr n) u)) σ a0
set_option maxRecDepth 20000 in
theorem sw_VectorSolverModel_isWord_61 {γ : xG1} {d b0 : Nat} {Q : xO → xS → Prop} {K40 : Int32 → Int32 → Int32 → xS → Prop} (hK40 : ∀ a0 a2 a3 σ, K40 a0 a2 a3 σ → xJ (SHP, γ) Y_VectorSolverModel_isWord (d + 4) b0 40 [(0, .int a0), (1, .ref 901), (2, .int a2), (3, .int a3)] [] σ Q) {a0 : Int32} {a3 : Int32} {σ : xS} (h : w_VectorSolverModel_isWord_61 Q K40 a0 a3 σ) : xJ (SHP, γ) Y_VectorSolverModel_isWord (d + 4) b0 61 [(0, .int a0), (1, .ref 901), (3, .int a3)] [] σ Q := by
  refine xJ.iconst (v := 1) (o_VectorSolverModel_isWord 34 rfl) (by decide) ?_
  refine xJ.goto (tgt := 66) (o_VectorSolverModel_isWord 35 rfl) (by decide) ?_
  refine xJ.istore_n (o_VectorSolverModel_isWord 37 rfl) (by decide) ?_
  refine xJ.iincC (w := 1) (o_VectorSolverModel_isWord 38 rfl) rfl (by decide) (by decide) ?_
  replace h := h _ rfl
  refine xJ.goto (tgt := 40) (o_VectorSolverModel_isWord 39 rfl) (by decide) ?_
  exact xJ.lvs (by exact ⟨rfl, rfl, rfl, rfl, trivial⟩) (hK40 _ _ _ _ h)
set_option maxRecDepth 20000 in
theorem sw_VectorSolverModel_isWord_40 {γ : xG1} {d b0 : Nat} {Q : xO → xS → Prop} : ∀ (n : Nat) (a0 : Int32) (a2 : Int32) (a3 : Int32) (σ : xS), w_VectorSolverModel_isWord_40 Q n a0 a2 a3 σ → xJ (SHP, γ) Y_VectorSolverModel_isWord (d + 4) b0 40 [(0, .int a0), (1, .ref 901), (2, .int a2), (3, .int a3)] [] σ Q := by
  intro n
  induction n with
  | zero => intro a0 a2 a3 σ h; exact h.elim
  | succ n ih =>
    intro a0 a2 a3 σ h
    refine xJ.iload_n (o_VectorSolverModel_isWord 23 rfl) rfl ?_
    refine xJ.aload_n (o_VectorSolverModel_isWord 24 rfl) rfl ?_
    refine xJ.callX (Y' := Y_String_length) (o_VectorSolverModel_isWord 25 rfl) m_VectorSolverModel_142 y_String_length im_String_length se_String_length rfl ⟨by decide, by decide⟩ (s_String_length_901 h) rfl rfl (Nat.le_of_ble_eq_true rfl) (fun _ hx => by cases hx) (fun v u q => ?_) (fun n u q => q)
    obtain ⟨r, rfl, h⟩ := xqi_get q
    refine xJ.icmp_ge (tgt := 73) (o_VectorSolverModel_isWord 26 rfl) (by decide) (fun z => ?_) (fun z => ?_)
    · replace h := h.1 z
      refine xJ.iload_n (o_VectorSolverModel_isWord 40 rfl) rfl ?_
      exact xJ.zreturn (o_VectorSolverModel_isWord 41 rfl) rfl h.1 h.2
    · replace h := h.2 z
      refine xJ.iload_n (o_VectorSolverModel_isWord 27 rfl) rfl ?_
      refine xJ.if_ne (tgt := 61) (o_VectorSolverModel_isWord 28 rfl) (by decide) (fun z => ?_) (fun z => ?_)
      · replace h := h.1 z
        exact xJ.lvs (by exact ⟨rfl, rfl, rfl, trivial⟩) (sw_VectorSolverModel_isWord_61 ih h)
      · replace h := h.2 z
        refine xJ.aload_n (o_VectorSolverModel_isWord 29 rfl) rfl ?_
        refine xJ.iload_n (o_VectorSolverModel_isWord 30 rfl) rfl ?_
        refine xJ.callX (Y' := Y_String_charAt) (o_VectorSolverModel_isWord 31 rfl) m_VectorSolverModel_148 y_String_charAt im_String_charAt se_String_charAt rfl ⟨by decide, by decide⟩ (s_String_charAt_901 h) rfl rfl (Nat.le_of_ble_eq_true rfl) (fun _ hx => by cases hx) (fun v u q => ?_) (fun n u q => q)
        obtain ⟨r, rfl, h⟩ := xqi_get q
        refine xJ.iload_n (o_VectorSolverModel_isWord 32 rfl) rfl ?_
        refine xJ.icmp_ne (tgt := 65) (o_VectorSolverModel_isWord 33 rfl) (by decide) (fun z => ?_) (fun z => ?_)
        · replace h := h.1 z
          refine xJ.iconst (v := 0) (o_VectorSolverModel_isWord 36 rfl) (by decide) ?_
          refine xJ.istore_n (o_VectorSolverModel_isWord 37 rfl) (by decide) ?_
          refine xJ.iincC (w := 1) (o_VectorSolverModel_isWord 38 rfl) rfl (by decide) (by decide) ?_
          replace h := h _ rfl
          refine xJ.goto (tgt := 40) (o_VectorSolverModel_isWord 39 rfl) (by decide) ?_
          exact xJ.lvs (by exact ⟨rfl, rfl, rfl, rfl, trivial⟩) (ih _ _ _ _ h)
        · replace h := h.2 z
          exact xJ.lvs (by exact ⟨rfl, rfl, rfl, trivial⟩) (sw_VectorSolverModel_isWord_61 ih h)
set_option maxRecDepth 20000 in
theorem sw_VectorSolverModel_isWord_33 {γ : xG1} {d b0 : Nat} {Q : xO → xS → Prop} {a0 : Int32} {σ : xS} (h : w_VectorSolverModel_isWord_33 Q a0 σ) : xJ (SHP, γ) Y_VectorSolverModel_isWord (d + 4) b0 33 [(0, .int a0)] [] σ Q := by
  refine xJ.ldcS (i := 1) (o_VectorSolverModel_isWord 17 rfl) t_VectorSolverModel_140 ?_
  refine xJ.astore_n (o_VectorSolverModel_isWord 18 rfl) (by decide) ?_
  refine xJ.iconst (v := 0) (o_VectorSolverModel_isWord 19 rfl) (by decide) ?_
  refine xJ.istore_n (o_VectorSolverModel_isWord 20 rfl) (by decide) ?_
  refine xJ.iconst (v := 0) (o_VectorSolverModel_isWord 21 rfl) (by decide) ?_
  refine xJ.istore_n (o_VectorSolverModel_isWord 22 rfl) (by decide) ?_
  obtain ⟨m, h⟩ := h
  exact xJ.lvs (by exact ⟨rfl, rfl, rfl, rfl, trivial⟩) (sw_VectorSolverModel_isWord_40 m _ _ _ _ h)
set_option maxRecDepth 20000 in
theorem sw_VectorSolverModel_isWord_19 {γ : xG1} {d b0 : Nat} {Q : xO → xS → Prop} {a0 : Int32} {σ : xS} (h : w_VectorSolverModel_isWord_19 Q a0 σ) : xJ (SHP, γ) Y_VectorSolverModel_isWord (d + 4) b0 19 [(0, .int a0)] [] σ Q := by
  refine xJ.iload_n (o_VectorSolverModel_isWord 9 rfl) rfl ?_
  refine xJ.bipush (v := 97) (o_VectorSolverModel_isWord 10 rfl) (by decide) ?_
  refine xJ.icmp_lt (tgt := 33) (o_VectorSolverModel_isWord 11 rfl) (by decide) (fun z => ?_) (fun z => ?_)
  · replace h := h.1 z
    exact xJ.lvs (by exact ⟨rfl, trivial⟩) (sw_VectorSolverModel_isWord_33 h)
  · replace h := h.2 z
    refine xJ.iload_n (o_VectorSolverModel_isWord 12 rfl) rfl ?_
    refine xJ.bipush (v := 122) (o_VectorSolverModel_isWord 13 rfl) (by decide) ?_
    refine xJ.icmp_gt (tgt := 33) (o_VectorSolverModel_isWord 14 rfl) (by decide) (fun z => ?_) (fun z => ?_)
    · replace h := h.1 z
      exact xJ.lvs (by exact ⟨rfl, trivial⟩) (sw_VectorSolverModel_isWord_33 h)
    · replace h := h.2 z
      refine xJ.iconst (v := 1) (o_VectorSolverModel_isWord 15 rfl) (by decide) ?_
      exact xJ.zreturn (o_VectorSolverModel_isWord 16 rfl) rfl (Or.inr rfl) h
set_option maxRecDepth 20000 in
theorem s_VectorSolverModel_isWord {γ : xG1} {d : Nat} {Q : xO → xS → Prop} {σ : xS} {a0 : Int32} (h : wp_VectorSolverModel_isWord Q σ a0) : xM (SHP, γ) Y_VectorSolverModel_isWord (d + 4) [.int a0] σ Q := by
  refine xM.of (by decide) (Nat.le_of_ble_eq_true rfl) ?_
  refine xJ.iload_n (o_VectorSolverModel_isWord 0 rfl) rfl ?_
  refine xJ.callS (Y' := Y_VectorSolverModel_isDigit) (o_VectorSolverModel_isWord 1 rfl) m_VectorSolverModel_136 y_VectorSolverModel_isDigit st_VectorSolverModel_isDigit (s_VectorSolverModel_isDigit h) rfl rfl (Nat.le_of_ble_eq_true rfl) (fun _ hx => by cases hx) (fun v u q => ?_) (fun n u q => q)
  obtain ⟨r, rfl, h⟩ := xqi_get q
  refine xJ.if_ne (tgt := 31) (o_VectorSolverModel_isWord 2 rfl) (by decide) (fun z => ?_) (fun z => ?_)
  · replace h := h.1 z
    refine xJ.iconst (v := 1) (o_VectorSolverModel_isWord 15 rfl) (by decide) ?_
    exact xJ.zreturn (o_VectorSolverModel_isWord 16 rfl) rfl (Or.inr rfl) h
  · replace h := h.2 z
    refine xJ.iload_n (o_VectorSolverModel_isWord 3 rfl) rfl ?_
    refine xJ.bipush (v := 65) (o_VectorSolverModel_isWord 4 rfl) (by decide) ?_
    refine xJ.icmp_lt (tgt := 19) (o_VectorSolverModel_isWord 5 rfl) (by decide) (fun z => ?_) (fun z => ?_)
    · replace h := h.1 z
      exact xJ.lvs (by exact ⟨rfl, trivial⟩) (sw_VectorSolverModel_isWord_19 h)
    · replace h := h.2 z
      refine xJ.iload_n (o_VectorSolverModel_isWord 6 rfl) rfl ?_
      refine xJ.bipush (v := 90) (o_VectorSolverModel_isWord 7 rfl) (by decide) ?_
      refine xJ.icmp_le (tgt := 31) (o_VectorSolverModel_isWord 8 rfl) (by decide) (fun z => ?_) (fun z => ?_)
      · replace h := h.1 z
        refine xJ.iconst (v := 1) (o_VectorSolverModel_isWord 15 rfl) (by decide) ?_
        exact xJ.zreturn (o_VectorSolverModel_isWord 16 rfl) rfl (Or.inr rfl) h
      · replace h := h.2 z
        exact xJ.lvs (by exact ⟨rfl, trivial⟩) (sw_VectorSolverModel_isWord_19 h)
def w_VectorSolverModel_split_354 (Q : xO → xS → Prop) (K9 : Int32 → Int32 → Int32 → Int32 → xS → Prop) (a1 : Int32) (a2 : Int32) (a3 : Int32) (σ : xS) : Prop :=
  (vp_in a1 65537 ∧ (∀ s6 : xS, s6 = xpi σ 54 a1.toNatClampNeg a2 → (vp_in a1 65537 ∧ (((xi s6 52 a1.toNatClampNeg) ≤ 0 → (∀ x7 : Int32, x7 = a1 + 1 → K9 x7 a2 a3 0 s6)) ∧ (¬ (xi s6 52 a1.toNatClampNeg) ≤ 0 → (∀ x8 : Int32, x8 = a1 + 1 → K9 x8 a2 a3 1 s6))))))
def w_VectorSolverModel_split_238 (Q : xO → xS → Prop) (K9 : Int32 → Int32 → Int32 → Int32 → xS → Prop) (a1 : Int32) (a2 : Int32) (t0 : Int32) (t1 : Int32) (σ : xS) : Prop :=
  (∀ x4 : Int32, x4 = (t0 + t1) → (∀ x5 : Int32, x5 = a2 + 1 → w_VectorSolverModel_split_354 Q K9 a1 x5 x4 σ))
def w_VectorSolverModel_split_223 (Q : xO → xS → Prop) (K9 : Int32 → Int32 → Int32 → Int32 → xS → Prop) (a1 : Int32) (a2 : Int32) (a3 : Int32) (a6 : Int32) (t1 : Int32) (t2 : Int32) (σ : xS) : Prop :=
  (vp_in t1 65537 ∧ (∀ s3 : xS, s3 = xpi σ 52 t1.toNatClampNeg (vp_nar .byte t2.toInt8.toInt32) → ((¬ a6 = 40 → w_VectorSolverModel_split_238 Q K9 a1 a2 a3 (-1) s3) ∧ (a6 = 40 → w_VectorSolverModel_split_238 Q K9 a1 a2 a3 1 s3))))
def w_VectorSolverModel_split_195 (Q : xO → xS → Prop) (K9 : Int32 → Int32 → Int32 → Int32 → xS → Prop) (a1 : Int32) (a2 : Int32) (a3 : Int32) (a6 : Int32) (σ : xS) : Prop :=
  ((¬ a6 = 41 → ((¬ a3 = 60 → w_VectorSolverModel_split_223 Q K9 a1 a2 a3 a6 a1 1 σ) ∧ (a3 = 60 → w_VectorSolverModel_split_223 Q K9 a1 a2 a3 a6 a1 (-10) σ))) ∧ (a6 = 41 → w_VectorSolverModel_split_223 Q K9 a1 a2 a3 a6 a1 2 σ))
def w_VectorSolverModel_split_349 (Q : xO → xS → Prop) (K9 : Int32 → Int32 → Int32 → Int32 → xS → Prop) (a1 : Int32) (a3 : Int32) (a7 : Int32) (t1 : Int32) (t2 : Int32) (σ : xS) : Prop :=
  (vp_in t1 65537 ∧ (∀ s14 : xS, s14 = xpi σ 55 t1.toNatClampNeg (vp_nar .byte t2.toInt8.toInt32) → w_VectorSolverModel_split_354 Q K9 a1 a7 a3 s14))
def w_VectorSolverModel_split_348 (Q : xO → xS → Prop) (K9 : Int32 → Int32 → Int32 → Int32 → xS → Prop) (a1 : Int32) (a3 : Int32) (a7 : Int32) (t1 : Int32) (σ : xS) : Prop :=
  w_VectorSolverModel_split_349 Q K9 a1 a3 a7 t1 (-1) σ
def w_VectorSolverModel_split_299 (Q : xO → xS → Prop) (K9 : Int32 → Int32 → Int32 → Int32 → xS → Prop) (a1 : Int32) (a2 : Int32) (a3 : Int32) (a7 : Int32) (σ : xS) : Prop :=
  wp_VectorSolverModel_kindOf (xqi (fun r12 u11 => (vp_in a1 65537 ∧ (∀ s13 : xS, s13 = xpi u11 52 a1.toNatClampNeg (vp_nar .byte r12.toInt8.toInt32) → (vp_in a1 65537 ∧ ((¬ (xi s13 52 a1.toNatClampNeg) = 6 → w_VectorSolverModel_split_348 Q K9 a1 a3 a7 a1 s13) ∧ ((xi s13 52 a1.toNatClampNeg) = 6 → ((16 ≤ (a7 - a2) → w_VectorSolverModel_split_348 Q K9 a1 a3 a7 a1 s13) ∧ (¬ 16 ≤ (a7 - a2) → wp_VectorSolverModel_reservedOf (xqi (fun r16 u15 => w_VectorSolverModel_split_349 Q K9 a1 a3 a7 a1 r16 u15) (fun n u => Q (.inr n) u)) s13 a2 a7)))))))) (fun n u => Q (.inr n) u)) σ a2 a7
def w_VectorSolverModel_split_267 (Q : xO → xS → Prop) (K9 : Int32 → Int32 → Int32 → Int32 → xS → Prop) : Nat → Int32 → Int32 → Int32 → Int32 → xS → Prop
  | 0 => fun _ _ _ _ _ => False
  | n + 1 => fun a1 a2 a3 a7 σ =>
    (((xi σ 50 3) ≤ a7 → w_VectorSolverModel_split_299 Q K9 a1 a2 a3 a7 σ) ∧ (¬ (xi σ 50 3) ≤ a7 → (vp_in a7 65536 ∧ wp_VectorSolverModel_isWord (xqi (fun r18 u17 => ((r18 = 0 → w_VectorSolverModel_split_299 Q K9 a1 a2 a3 a7 u17) ∧ (¬ r18 = 0 → (∀ x19 : Int32, x19 = a7 + 1 → w_VectorSolverModel_split_267 Q K9 n a1 a2 a3 x19 u17)))) (fun n u => Q (.inr n) u)) σ ((xi σ 51 a7.toNatClampNeg) &&& 255))))
def w_VectorSolverModel_split_161 (Q : xO → xS → Prop) (K9 : Int32 → Int32 → Int32 → Int32 → xS → Prop) (a1 : Int32) (a2 : Int32) (a3 : Int32) (t0 : Int32) (σ : xS) : Prop :=
  ((¬ a2 = (xi σ 50 3) → ((t0 = 40 → w_VectorSolverModel_split_195 Q K9 a1 a2 a3 t0 σ) ∧ (¬ t0 = 40 → ((¬ t0 = 41 → wp_VectorSolverModel_isWord (xqi (fun r10 u9 => ((¬ r10 = 0 → ∃ m, w_VectorSolverModel_split_267 Q K9 m a1 a2 a3 a2 u9) ∧ (r10 = 0 → (vp_in a1 65537 ∧ (∀ s20 : xS, s20 = xpi u9 52 a1.toNatClampNeg (vp_nar .byte (-1)) → w_VectorSolverModel_split_354 Q K9 a1 a2 a3 s20))))) (fun n u => Q (.inr n) u)) σ t0) ∧ (t0 = 41 → w_VectorSolverModel_split_195 Q K9 a1 a2 a3 t0 σ))))) ∧ (a2 = (xi σ 50 3) → (vp_in a1 65537 ∧ (∀ s21 : xS, s21 = xpi σ 52 a1.toNatClampNeg (vp_nar .byte 0) → w_VectorSolverModel_split_354 Q K9 a1 a2 a3 s21))))
def w_VectorSolverModel_split_125 (Q : xO → xS → Prop) (K9 : Int32 → Int32 → Int32 → Int32 → xS → Prop) (a1 : Int32) (a2 : Int32) (a3 : Int32) (σ : xS) : Prop :=
  (vp_in a1 65537 ∧ (∀ s1 : xS, s1 = xpi σ 53 a1.toNatClampNeg a2 → (vp_in a1 65537 ∧ (∀ s2 : xS, s2 = xpi s1 55 a1.toNatClampNeg (vp_nar .byte (-1)) → (((xi s2 50 3) ≤ a2 → w_VectorSolverModel_split_161 Q K9 a1 a2 a3 0 s2) ∧ (¬ (xi s2 50 3) ≤ a2 → (vp_in a2 65536 ∧ w_VectorSolverModel_split_161 Q K9 a1 a2 a3 ((xi s2 51 a2.toNatClampNeg) &&& 255) s2)))))))
def w_VectorSolverModel_split_101 (Q : xO → xS → Prop) (K17 : Int32 → Int32 → Int32 → Int32 → xS → Prop) (a1 : Int32) (a2 : Int32) (a3 : Int32) (σ : xS) : Prop :=
  (vp_in a2 65536 ∧ (((xi σ 51 a2.toNatClampNeg) = 10 → (∀ x22 : Int32, x22 = a2 + 1 → K17 a1 x22 a3 0 σ)) ∧ (¬ (xi σ 51 a2.toNatClampNeg) = 10 → (∀ x23 : Int32, x23 = a2 + 1 → K17 a1 x23 a3 1 σ))))
def w_VectorSolverModel_split_85 (Q : xO → xS → Prop) (K17 : Int32 → Int32 → Int32 → Int32 → xS → Prop) (a1 : Int32) (a2 : Int32) (a3 : Int32) (a5 : Int32) (σ : xS) : Prop :=
  ((¬ a5 = 0 → w_VectorSolverModel_split_101 Q K17 a1 a2 a3 σ) ∧ (a5 = 0 → (vp_in a2 65536 ∧ ((¬ (xi σ 51 a2.toNatClampNeg) = 59 → (∀ x24 : Int32, x24 = a2 + 1 → K17 a1 x24 a3 0 σ)) ∧ ((xi σ 51 a2.toNatClampNeg) = 59 → w_VectorSolverModel_split_101 Q K17 a1 a2 a3 σ)))))
def w_VectorSolverModel_split_17 (Q : xO → xS → Prop) (K9 : Int32 → Int32 → Int32 → Int32 → xS → Prop) : Nat → Int32 → Int32 → Int32 → Int32 → xS → Prop
  | 0 => fun _ _ _ _ _ => False
  | n + 1 => fun a1 a2 a3 a5 σ =>
    (((xi σ 50 3) ≤ a2 → w_VectorSolverModel_split_125 Q K9 a1 a2 a3 σ) ∧ (¬ (xi σ 50 3) ≤ a2 → ((¬ a5 = 0 → w_VectorSolverModel_split_85 Q (w_VectorSolverModel_split_17 Q K9 n) a1 a2 a3 a5 σ) ∧ (a5 = 0 → (vp_in a2 65536 ∧ (((xi σ 51 a2.toNatClampNeg) = 9 → w_VectorSolverModel_split_85 Q (w_VectorSolverModel_split_17 Q K9 n) a1 a2 a3 a5 σ) ∧ (¬ (xi σ 51 a2.toNatClampNeg) = 9 → (vp_in a2 65536 ∧ (((xi σ 51 a2.toNatClampNeg) = 10 → w_VectorSolverModel_split_85 Q (w_VectorSolverModel_split_17 Q K9 n) a1 a2 a3 a5 σ) ∧ (¬ (xi σ 51 a2.toNatClampNeg) = 10 → (vp_in a2 65536 ∧ (((xi σ 51 a2.toNatClampNeg) = 13 → w_VectorSolverModel_split_85 Q (w_VectorSolverModel_split_17 Q K9 n) a1 a2 a3 a5 σ) ∧ (¬ (xi σ 51 a2.toNatClampNeg) = 13 → (vp_in a2 65536 ∧ (((xi σ 51 a2.toNatClampNeg) = 32 → w_VectorSolverModel_split_85 Q (w_VectorSolverModel_split_17 Q K9 n) a1 a2 a3 a5 σ) ∧ (¬ (xi σ 51 a2.toNatClampNeg) = 32 → (vp_in a2 65536 ∧ ((¬ (xi σ 51 a2.toNatClampNeg) = 59 → w_VectorSolverModel_split_125 Q K9 a1 a2 a3 σ) ∧ ((xi σ 51 a2.toNatClampNeg) = 59 → w_VectorSolverModel_split_85 Q (w_VectorSolverModel_split_17 Q K9 n) a1 a2 a3 a5 σ)))))))))))))))))))
def w_VectorSolverModel_split_9 (Q : xO → xS → Prop) : Nat → Int32 → Int32 → Int32 → Int32 → xS → Prop
  | 0 => fun _ _ _ _ _ => False
  | n + 1 => fun a1 a2 a3 a4 σ =>
    ((a4 = 0 → Q (.inl none) σ) ∧ (¬ a4 = 0 → ∃ m, w_VectorSolverModel_split_17 Q (w_VectorSolverModel_split_9 Q n) m a1 a2 a3 0 σ))
def wp_VectorSolverModel_split (Q : xO → xS → Prop) (σ : xS)  : Prop :=
  ∃ m, w_VectorSolverModel_split_9 Q m 0 0 0 1 σ
set_option maxRecDepth 20000 in
theorem sw_VectorSolverModel_split_354 {γ : xG1} {d b0 : Nat} {Q : xO → xS → Prop} {K9 : Int32 → Int32 → Int32 → Int32 → xS → Prop} (hK9 : ∀ a1 a2 a3 a4 σ, K9 a1 a2 a3 a4 σ → xJ (SHP, γ) Y_VectorSolverModel_split (d + 5) b0 9 [(0, .ref 50), (1, .int a1), (2, .int a2), (3, .int a3), (4, .int a4)] [] σ Q) {a1 : Int32} {a2 : Int32} {a3 : Int32} {σ : xS} (h : w_VectorSolverModel_split_354 Q K9 a1 a2 a3 σ) : xJ (SHP, γ) Y_VectorSolverModel_split (d + 5) b0 354 [(0, .ref 50), (1, .int a1), (2, .int a2), (3, .int a3)] [] σ Q := by
  refine xJ.aload_n (o_VectorSolverModel_split 192 rfl) rfl ?_
  refine xJ.getfield (o_VectorSolverModel_split 193 rfl) f_VectorSolverModel_32 rfl rfl ?_
  refine xJ.iload_n (o_VectorSolverModel_split 194 rfl) rfl ?_
  refine xJ.iload_n (o_VectorSolverModel_split 195 rfl) rfl ?_
  refine xJ.iastore (o_VectorSolverModel_split 196 rfl) rfl h.1 ?_
  replace h := h.2
  replace h := h _ rfl
  refine xJ.aload_n (o_VectorSolverModel_split 197 rfl) rfl ?_
  refine xJ.getfield (o_VectorSolverModel_split 198 rfl) f_VectorSolverModel_25 rfl rfl ?_
  refine xJ.iload_n (o_VectorSolverModel_split 199 rfl) rfl ?_
  refine xJ.baload (o_VectorSolverModel_split 200 rfl) rfl h.1 ?_
  replace h := h.2
  refine xJ.if_le (tgt := 374) (o_VectorSolverModel_split 201 rfl) (by decide) (fun z => ?_) (fun z => ?_)
  · replace h := h.1 z
    refine xJ.iconst (v := 0) (o_VectorSolverModel_split 204 rfl) (by decide) ?_
    refine xJ.istore (o_VectorSolverModel_split 205 rfl) (by decide) ?_
    refine xJ.iincC (w := 1) (o_VectorSolverModel_split 206 rfl) rfl (by decide) (by decide) ?_
    replace h := h _ rfl
    refine xJ.goto (tgt := 9) (o_VectorSolverModel_split 207 rfl) (by decide) ?_
    exact xJ.lvs (by exact ⟨rfl, rfl, rfl, rfl, rfl, trivial⟩) (hK9 _ _ _ _ _ h)
  · replace h := h.2 z
    refine xJ.iconst (v := 1) (o_VectorSolverModel_split 202 rfl) (by decide) ?_
    refine xJ.goto (tgt := 375) (o_VectorSolverModel_split 203 rfl) (by decide) ?_
    refine xJ.istore (o_VectorSolverModel_split 205 rfl) (by decide) ?_
    refine xJ.iincC (w := 1) (o_VectorSolverModel_split 206 rfl) rfl (by decide) (by decide) ?_
    replace h := h _ rfl
    refine xJ.goto (tgt := 9) (o_VectorSolverModel_split 207 rfl) (by decide) ?_
    exact xJ.lvs (by exact ⟨rfl, rfl, rfl, rfl, rfl, trivial⟩) (hK9 _ _ _ _ _ h)
set_option maxRecDepth 20000 in
theorem sw_VectorSolverModel_split_238 {γ : xG1} {d b0 : Nat} {Q : xO → xS → Prop} {K9 : Int32 → Int32 → Int32 → Int32 → xS → Prop} (hK9 : ∀ a1 a2 a3 a4 σ, K9 a1 a2 a3 a4 σ → xJ (SHP, γ) Y_VectorSolverModel_split (d + 5) b0 9 [(0, .ref 50), (1, .int a1), (2, .int a2), (3, .int a3), (4, .int a4)] [] σ Q) {a1 : Int32} {a2 : Int32} {t0 : Int32} {t1 : Int32} {σ : xS} (h : w_VectorSolverModel_split_238 Q K9 a1 a2 t0 t1 σ) : xJ (SHP, γ) Y_VectorSolverModel_split (d + 5) b0 238 [(0, .ref 50), (1, .int a1), (2, .int a2)] [.int t1, .int t0] σ Q := by
  refine xJ.iadd (o_VectorSolverModel_split 130 rfl) ?_
  refine xJ.istore_n (o_VectorSolverModel_split 131 rfl) (by decide) ?_
  replace h := h _ rfl
  refine xJ.iincC (w := 1) (o_VectorSolverModel_split 132 rfl) rfl (by decide) (by decide) ?_
  replace h := h _ rfl
  refine xJ.goto (tgt := 354) (o_VectorSolverModel_split 133 rfl) (by decide) ?_
  exact xJ.lvs (by exact ⟨rfl, rfl, rfl, rfl, trivial⟩) (sw_VectorSolverModel_split_354 hK9 h)
set_option maxRecDepth 20000 in
theorem sw_VectorSolverModel_split_223 {γ : xG1} {d b0 : Nat} {Q : xO → xS → Prop} {K9 : Int32 → Int32 → Int32 → Int32 → xS → Prop} (hK9 : ∀ a1 a2 a3 a4 σ, K9 a1 a2 a3 a4 σ → xJ (SHP, γ) Y_VectorSolverModel_split (d + 5) b0 9 [(0, .ref 50), (1, .int a1), (2, .int a2), (3, .int a3), (4, .int a4)] [] σ Q) {a1 : Int32} {a2 : Int32} {a3 : Int32} {a6 : Int32} {t1 : Int32} {t2 : Int32} {σ : xS} (h : w_VectorSolverModel_split_223 Q K9 a1 a2 a3 a6 t1 t2 σ) : xJ (SHP, γ) Y_VectorSolverModel_split (d + 5) b0 223 [(0, .ref 50), (1, .int a1), (2, .int a2), (3, .int a3), (6, .int a6)] [.int t2, .int t1, .ref 52] σ Q := by
  refine xJ.i2b (o_VectorSolverModel_split 121 rfl) rfl ?_
  refine xJ.bastore (o_VectorSolverModel_split 122 rfl) rfl h.1 ?_
  replace h := h.2
  replace h := h _ rfl
  refine xJ.iload_n (o_VectorSolverModel_split 123 rfl) rfl ?_
  refine xJ.iload (o_VectorSolverModel_split 124 rfl) rfl ?_
  refine xJ.bipush (v := 40) (o_VectorSolverModel_split 125 rfl) (by decide) ?_
  refine xJ.icmp_ne (tgt := 237) (o_VectorSolverModel_split 126 rfl) (by decide) (fun z => ?_) (fun z => ?_)
  · replace h := h.1 z
    refine xJ.iconst (v := (-1)) (o_VectorSolverModel_split 129 rfl) (by decide) ?_
    exact xJ.lvs (by exact ⟨rfl, rfl, rfl, trivial⟩) (sw_VectorSolverModel_split_238 hK9 h)
  · replace h := h.2 z
    refine xJ.iconst (v := 1) (o_VectorSolverModel_split 127 rfl) (by decide) ?_
    refine xJ.goto (tgt := 238) (o_VectorSolverModel_split 128 rfl) (by decide) ?_
    exact xJ.lvs (by exact ⟨rfl, rfl, rfl, trivial⟩) (sw_VectorSolverModel_split_238 hK9 h)
set_option maxRecDepth 20000 in
theorem sw_VectorSolverModel_split_195 {γ : xG1} {d b0 : Nat} {Q : xO → xS → Prop} {K9 : Int32 → Int32 → Int32 → Int32 → xS → Prop} (hK9 : ∀ a1 a2 a3 a4 σ, K9 a1 a2 a3 a4 σ → xJ (SHP, γ) Y_VectorSolverModel_split (d + 5) b0 9 [(0, .ref 50), (1, .int a1), (2, .int a2), (3, .int a3), (4, .int a4)] [] σ Q) {a1 : Int32} {a2 : Int32} {a3 : Int32} {a6 : Int32} {σ : xS} (h : w_VectorSolverModel_split_195 Q K9 a1 a2 a3 a6 σ) : xJ (SHP, γ) Y_VectorSolverModel_split (d + 5) b0 195 [(0, .ref 50), (1, .int a1), (2, .int a2), (3, .int a3), (6, .int a6)] [] σ Q := by
  refine xJ.aload_n (o_VectorSolverModel_split 107 rfl) rfl ?_
  refine xJ.getfield (o_VectorSolverModel_split 108 rfl) f_VectorSolverModel_25 rfl rfl ?_
  refine xJ.iload_n (o_VectorSolverModel_split 109 rfl) rfl ?_
  refine xJ.iload (o_VectorSolverModel_split 110 rfl) rfl ?_
  refine xJ.bipush (v := 41) (o_VectorSolverModel_split 111 rfl) (by decide) ?_
  refine xJ.icmp_ne (tgt := 211) (o_VectorSolverModel_split 112 rfl) (by decide) (fun z => ?_) (fun z => ?_)
  · replace h := h.1 z
    refine xJ.iload_n (o_VectorSolverModel_split 115 rfl) rfl ?_
    refine xJ.bipush (v := 60) (o_VectorSolverModel_split 116 rfl) (by decide) ?_
    refine xJ.icmp_ne (tgt := 222) (o_VectorSolverModel_split 117 rfl) (by decide) (fun z => ?_) (fun z => ?_)
    · replace h := h.1 z
      refine xJ.iconst (v := 1) (o_VectorSolverModel_split 120 rfl) (by decide) ?_
      exact xJ.lvs (by exact ⟨rfl, rfl, rfl, rfl, rfl, trivial⟩) (sw_VectorSolverModel_split_223 hK9 h)
    · replace h := h.2 z
      refine xJ.bipush (v := (-10)) (o_VectorSolverModel_split 118 rfl) (by decide) ?_
      refine xJ.goto (tgt := 223) (o_VectorSolverModel_split 119 rfl) (by decide) ?_
      exact xJ.lvs (by exact ⟨rfl, rfl, rfl, rfl, rfl, trivial⟩) (sw_VectorSolverModel_split_223 hK9 h)
  · replace h := h.2 z
    refine xJ.iconst (v := 2) (o_VectorSolverModel_split 113 rfl) (by decide) ?_
    refine xJ.goto (tgt := 223) (o_VectorSolverModel_split 114 rfl) (by decide) ?_
    exact xJ.lvs (by exact ⟨rfl, rfl, rfl, rfl, rfl, trivial⟩) (sw_VectorSolverModel_split_223 hK9 h)
set_option maxRecDepth 20000 in
theorem sw_VectorSolverModel_split_349 {γ : xG1} {d b0 : Nat} {Q : xO → xS → Prop} {K9 : Int32 → Int32 → Int32 → Int32 → xS → Prop} (hK9 : ∀ a1 a2 a3 a4 σ, K9 a1 a2 a3 a4 σ → xJ (SHP, γ) Y_VectorSolverModel_split (d + 5) b0 9 [(0, .ref 50), (1, .int a1), (2, .int a2), (3, .int a3), (4, .int a4)] [] σ Q) {a1 : Int32} {a3 : Int32} {a7 : Int32} {t1 : Int32} {t2 : Int32} {σ : xS} (h : w_VectorSolverModel_split_349 Q K9 a1 a3 a7 t1 t2 σ) : xJ (SHP, γ) Y_VectorSolverModel_split (d + 5) b0 349 [(0, .ref 50), (1, .int a1), (3, .int a3), (7, .int a7)] [.int t2, .int t1, .ref 55] σ Q := by
  refine xJ.i2b (o_VectorSolverModel_split 188 rfl) rfl ?_
  refine xJ.bastore (o_VectorSolverModel_split 189 rfl) rfl h.1 ?_
  replace h := h.2
  replace h := h _ rfl
  refine xJ.iload (o_VectorSolverModel_split 190 rfl) rfl ?_
  refine xJ.istore_n (o_VectorSolverModel_split 191 rfl) (by decide) ?_
  exact xJ.lvs (by exact ⟨rfl, rfl, rfl, rfl, trivial⟩) (sw_VectorSolverModel_split_354 hK9 h)
set_option maxRecDepth 20000 in
theorem sw_VectorSolverModel_split_348 {γ : xG1} {d b0 : Nat} {Q : xO → xS → Prop} {K9 : Int32 → Int32 → Int32 → Int32 → xS → Prop} (hK9 : ∀ a1 a2 a3 a4 σ, K9 a1 a2 a3 a4 σ → xJ (SHP, γ) Y_VectorSolverModel_split (d + 5) b0 9 [(0, .ref 50), (1, .int a1), (2, .int a2), (3, .int a3), (4, .int a4)] [] σ Q) {a1 : Int32} {a3 : Int32} {a7 : Int32} {t1 : Int32} {σ : xS} (h : w_VectorSolverModel_split_348 Q K9 a1 a3 a7 t1 σ) : xJ (SHP, γ) Y_VectorSolverModel_split (d + 5) b0 348 [(0, .ref 50), (1, .int a1), (3, .int a3), (7, .int a7)] [.int t1, .ref 55] σ Q := by
  refine xJ.iconst (v := (-1)) (o_VectorSolverModel_split 187 rfl) (by decide) ?_
  exact xJ.lvs (by exact ⟨rfl, rfl, rfl, rfl, trivial⟩) (sw_VectorSolverModel_split_349 hK9 h)
set_option maxRecDepth 20000 in
theorem sw_VectorSolverModel_split_299 {γ : xG1} {d b0 : Nat} {Q : xO → xS → Prop} {K9 : Int32 → Int32 → Int32 → Int32 → xS → Prop} (hK9 : ∀ a1 a2 a3 a4 σ, K9 a1 a2 a3 a4 σ → xJ (SHP, γ) Y_VectorSolverModel_split (d + 5) b0 9 [(0, .ref 50), (1, .int a1), (2, .int a2), (3, .int a3), (4, .int a4)] [] σ Q) {a1 : Int32} {a2 : Int32} {a3 : Int32} {a7 : Int32} {σ : xS} (h : w_VectorSolverModel_split_299 Q K9 a1 a2 a3 a7 σ) : xJ (SHP, γ) Y_VectorSolverModel_split (d + 5) b0 299 [(0, .ref 50), (1, .int a1), (2, .int a2), (3, .int a3), (7, .int a7)] [] σ Q := by
  refine xJ.aload_n (o_VectorSolverModel_split 159 rfl) rfl ?_
  refine xJ.getfield (o_VectorSolverModel_split 160 rfl) f_VectorSolverModel_25 rfl rfl ?_
  refine xJ.iload_n (o_VectorSolverModel_split 161 rfl) rfl ?_
  refine xJ.aload_n (o_VectorSolverModel_split 162 rfl) rfl ?_
  refine xJ.iload_n (o_VectorSolverModel_split 163 rfl) rfl ?_
  refine xJ.iload (o_VectorSolverModel_split 164 rfl) rfl ?_
  refine xJ.callV (Y' := Y_VectorSolverModel_kindOf) (o_VectorSolverModel_split 165 rfl) m_VectorSolverModel_159 y_VectorSolverModel_kindOf im_VectorSolverModel_kindOf se_VectorSolverModel_kindOf rfl rfl (s_VectorSolverModel_kindOf h) rfl rfl (Nat.le_of_ble_eq_true rfl) (fun _ hx => by cases hx) (fun v u q => ?_) (fun n u q => q)
  obtain ⟨r, rfl, h⟩ := xqi_get q
  refine xJ.i2b (o_VectorSolverModel_split 166 rfl) rfl ?_
  refine xJ.bastore (o_VectorSolverModel_split 167 rfl) rfl h.1 ?_
  replace h := h.2
  replace h := h _ rfl
  refine xJ.aload_n (o_VectorSolverModel_split 168 rfl) rfl ?_
  refine xJ.getfield (o_VectorSolverModel_split 169 rfl) f_VectorSolverModel_35 rfl rfl ?_
  refine xJ.iload_n (o_VectorSolverModel_split 170 rfl) rfl ?_
  refine xJ.aload_n (o_VectorSolverModel_split 171 rfl) rfl ?_
  refine xJ.getfield (o_VectorSolverModel_split 172 rfl) f_VectorSolverModel_25 rfl rfl ?_
  refine xJ.iload_n (o_VectorSolverModel_split 173 rfl) rfl ?_
  refine xJ.baload (o_VectorSolverModel_split 174 rfl) rfl h.1 ?_
  replace h := h.2
  refine xJ.bipush (v := 6) (o_VectorSolverModel_split 175 rfl) (by decide) ?_
  refine xJ.icmp_ne (tgt := 348) (o_VectorSolverModel_split 176 rfl) (by decide) (fun z => ?_) (fun z => ?_)
  · replace h := h.1 z
    exact xJ.lvs (by exact ⟨rfl, rfl, rfl, rfl, trivial⟩) (sw_VectorSolverModel_split_348 hK9 h)
  · replace h := h.2 z
    refine xJ.iload (o_VectorSolverModel_split 177 rfl) rfl ?_
    refine xJ.iload_n (o_VectorSolverModel_split 178 rfl) rfl ?_
    refine xJ.isub (o_VectorSolverModel_split 179 rfl) ?_
    refine xJ.bipush (v := 16) (o_VectorSolverModel_split 180 rfl) (by decide) ?_
    refine xJ.icmp_ge (tgt := 348) (o_VectorSolverModel_split 181 rfl) (by decide) (fun z => ?_) (fun z => ?_)
    · replace h := h.1 z
      exact xJ.lvs (by exact ⟨rfl, rfl, rfl, rfl, trivial⟩) (sw_VectorSolverModel_split_348 hK9 h)
    · replace h := h.2 z
      refine xJ.aload_n (o_VectorSolverModel_split 182 rfl) rfl ?_
      refine xJ.iload_n (o_VectorSolverModel_split 183 rfl) rfl ?_
      refine xJ.iload (o_VectorSolverModel_split 184 rfl) rfl ?_
      refine xJ.callV (Y' := Y_VectorSolverModel_reservedOf) (o_VectorSolverModel_split 185 rfl) m_VectorSolverModel_163 y_VectorSolverModel_reservedOf im_VectorSolverModel_reservedOf se_VectorSolverModel_reservedOf rfl rfl (s_VectorSolverModel_reservedOf h) rfl rfl (Nat.le_of_ble_eq_true rfl) (fun _ hx => by cases hx) (fun v u q => ?_) (fun n u q => q)
      obtain ⟨r, rfl, h⟩ := xqi_get q
      refine xJ.goto (tgt := 349) (o_VectorSolverModel_split 186 rfl) (by decide) ?_
      exact xJ.lvs (by exact ⟨rfl, rfl, rfl, rfl, trivial⟩) (sw_VectorSolverModel_split_349 hK9 h)
set_option maxRecDepth 20000 in
theorem sw_VectorSolverModel_split_267 {γ : xG1} {d b0 : Nat} {Q : xO → xS → Prop} {K9 : Int32 → Int32 → Int32 → Int32 → xS → Prop} (hK9 : ∀ a1 a2 a3 a4 σ, K9 a1 a2 a3 a4 σ → xJ (SHP, γ) Y_VectorSolverModel_split (d + 5) b0 9 [(0, .ref 50), (1, .int a1), (2, .int a2), (3, .int a3), (4, .int a4)] [] σ Q) : ∀ (n : Nat) (a1 : Int32) (a2 : Int32) (a3 : Int32) (a7 : Int32) (σ : xS), w_VectorSolverModel_split_267 Q K9 n a1 a2 a3 a7 σ → xJ (SHP, γ) Y_VectorSolverModel_split (d + 5) b0 267 [(0, .ref 50), (1, .int a1), (2, .int a2), (3, .int a3), (7, .int a7)] [] σ Q := by
  intro n
  induction n with
  | zero => intro a1 a2 a3 a7 σ h; exact h.elim
  | succ n ih =>
    intro a1 a2 a3 a7 σ h
    refine xJ.iload (o_VectorSolverModel_split 145 rfl) rfl ?_
    refine xJ.aload_n (o_VectorSolverModel_split 146 rfl) rfl ?_
    refine xJ.getfield (o_VectorSolverModel_split 147 rfl) f_VectorSolverModel_129 rfl rfl ?_
    refine xJ.icmp_ge (tgt := 299) (o_VectorSolverModel_split 148 rfl) (by decide) (fun z => ?_) (fun z => ?_)
    · replace h := h.1 z
      exact xJ.lvs (by exact ⟨rfl, rfl, rfl, rfl, rfl, trivial⟩) (sw_VectorSolverModel_split_299 hK9 h)
    · replace h := h.2 z
      refine xJ.aload_n (o_VectorSolverModel_split 149 rfl) rfl ?_
      refine xJ.getfield (o_VectorSolverModel_split 150 rfl) f_VectorSolverModel_16 rfl rfl ?_
      refine xJ.iload (o_VectorSolverModel_split 151 rfl) rfl ?_
      refine xJ.baload (o_VectorSolverModel_split 152 rfl) rfl h.1 ?_
      replace h := h.2
      refine xJ.sipush (v := 255) (o_VectorSolverModel_split 153 rfl) (by decide) ?_
      refine xJ.iand (o_VectorSolverModel_split 154 rfl) ?_
      refine xJ.callS (Y' := Y_VectorSolverModel_isWord) (o_VectorSolverModel_split 155 rfl) m_VectorSolverModel_156 y_VectorSolverModel_isWord st_VectorSolverModel_isWord (s_VectorSolverModel_isWord h) rfl rfl (Nat.le_of_ble_eq_true rfl) (fun _ hx => by cases hx) (fun v u q => ?_) (fun n u q => q)
      obtain ⟨r, rfl, h⟩ := xqi_get q
      refine xJ.if_eq (tgt := 299) (o_VectorSolverModel_split 156 rfl) (by decide) (fun z => ?_) (fun z => ?_)
      · replace h := h.1 z
        exact xJ.lvs (by exact ⟨rfl, rfl, rfl, rfl, rfl, trivial⟩) (sw_VectorSolverModel_split_299 hK9 h)
      · replace h := h.2 z
        refine xJ.iincC (w := 1) (o_VectorSolverModel_split 157 rfl) rfl (by decide) (by decide) ?_
        replace h := h _ rfl
        refine xJ.goto (tgt := 267) (o_VectorSolverModel_split 158 rfl) (by decide) ?_
        exact xJ.lvs (by exact ⟨rfl, rfl, rfl, rfl, rfl, trivial⟩) (ih _ _ _ _ _ h)
set_option maxRecDepth 20000 in
theorem sw_VectorSolverModel_split_161 {γ : xG1} {d b0 : Nat} {Q : xO → xS → Prop} {K9 : Int32 → Int32 → Int32 → Int32 → xS → Prop} (hK9 : ∀ a1 a2 a3 a4 σ, K9 a1 a2 a3 a4 σ → xJ (SHP, γ) Y_VectorSolverModel_split (d + 5) b0 9 [(0, .ref 50), (1, .int a1), (2, .int a2), (3, .int a3), (4, .int a4)] [] σ Q) {a1 : Int32} {a2 : Int32} {a3 : Int32} {t0 : Int32} {σ : xS} (h : w_VectorSolverModel_split_161 Q K9 a1 a2 a3 t0 σ) : xJ (SHP, γ) Y_VectorSolverModel_split (d + 5) b0 161 [(0, .ref 50), (1, .int a1), (2, .int a2), (3, .int a3)] [.int t0] σ Q := by
  refine xJ.istore (o_VectorSolverModel_split 90 rfl) (by decide) ?_
  refine xJ.iload_n (o_VectorSolverModel_split 91 rfl) rfl ?_
  refine xJ.aload_n (o_VectorSolverModel_split 92 rfl) rfl ?_
  refine xJ.getfield (o_VectorSolverModel_split 93 rfl) f_VectorSolverModel_129 rfl rfl ?_
  refine xJ.icmp_ne (tgt := 181) (o_VectorSolverModel_split 94 rfl) (by decide) (fun z => ?_) (fun z => ?_)
  · replace h := h.1 z
    refine xJ.iload (o_VectorSolverModel_split 101 rfl) rfl ?_
    refine xJ.bipush (v := 40) (o_VectorSolverModel_split 102 rfl) (by decide) ?_
    refine xJ.icmp_eq (tgt := 195) (o_VectorSolverModel_split 103 rfl) (by decide) (fun z => ?_) (fun z => ?_)
    · replace h := h.1 z
      exact xJ.lvs (by exact ⟨rfl, rfl, rfl, rfl, rfl, trivial⟩) (sw_VectorSolverModel_split_195 hK9 h)
    · replace h := h.2 z
      refine xJ.iload (o_VectorSolverModel_split 104 rfl) rfl ?_
      refine xJ.bipush (v := 41) (o_VectorSolverModel_split 105 rfl) (by decide) ?_
      refine xJ.icmp_ne (tgt := 246) (o_VectorSolverModel_split 106 rfl) (by decide) (fun z => ?_) (fun z => ?_)
      · replace h := h.1 z
        refine xJ.iload (o_VectorSolverModel_split 134 rfl) rfl ?_
        refine xJ.callS (Y' := Y_VectorSolverModel_isWord) (o_VectorSolverModel_split 135 rfl) m_VectorSolverModel_156 y_VectorSolverModel_isWord st_VectorSolverModel_isWord (s_VectorSolverModel_isWord h) rfl rfl (Nat.le_of_ble_eq_true rfl) (fun _ hx => by cases hx) (fun v u q => ?_) (fun n u q => q)
        obtain ⟨r, rfl, h⟩ := xqi_get q
        refine xJ.if_ne (tgt := 264) (o_VectorSolverModel_split 136 rfl) (by decide) (fun z => ?_) (fun z => ?_)
        · replace h := h.1 z
          refine xJ.iload_n (o_VectorSolverModel_split 143 rfl) rfl ?_
          refine xJ.istore (o_VectorSolverModel_split 144 rfl) (by decide) ?_
          obtain ⟨m, h⟩ := h
          exact xJ.lvs (by exact ⟨rfl, rfl, rfl, rfl, rfl, trivial⟩) (sw_VectorSolverModel_split_267 hK9 m _ _ _ _ _ h)
        · replace h := h.2 z
          refine xJ.aload_n (o_VectorSolverModel_split 137 rfl) rfl ?_
          refine xJ.getfield (o_VectorSolverModel_split 138 rfl) f_VectorSolverModel_25 rfl rfl ?_
          refine xJ.iload_n (o_VectorSolverModel_split 139 rfl) rfl ?_
          refine xJ.iconst (v := (-1)) (o_VectorSolverModel_split 140 rfl) (by decide) ?_
          refine xJ.bastore (o_VectorSolverModel_split 141 rfl) rfl h.1 ?_
          replace h := h.2
          replace h := h _ rfl
          refine xJ.goto (tgt := 354) (o_VectorSolverModel_split 142 rfl) (by decide) ?_
          exact xJ.lvs (by exact ⟨rfl, rfl, rfl, rfl, trivial⟩) (sw_VectorSolverModel_split_354 hK9 h)
      · replace h := h.2 z
        exact xJ.lvs (by exact ⟨rfl, rfl, rfl, rfl, rfl, trivial⟩) (sw_VectorSolverModel_split_195 hK9 h)
  · replace h := h.2 z
    refine xJ.aload_n (o_VectorSolverModel_split 95 rfl) rfl ?_
    refine xJ.getfield (o_VectorSolverModel_split 96 rfl) f_VectorSolverModel_25 rfl rfl ?_
    refine xJ.iload_n (o_VectorSolverModel_split 97 rfl) rfl ?_
    refine xJ.iconst (v := 0) (o_VectorSolverModel_split 98 rfl) (by decide) ?_
    refine xJ.bastore (o_VectorSolverModel_split 99 rfl) rfl h.1 ?_
    replace h := h.2
    replace h := h _ rfl
    refine xJ.goto (tgt := 354) (o_VectorSolverModel_split 100 rfl) (by decide) ?_
    exact xJ.lvs (by exact ⟨rfl, rfl, rfl, rfl, trivial⟩) (sw_VectorSolverModel_split_354 hK9 h)
set_option maxRecDepth 20000 in
theorem sw_VectorSolverModel_split_125 {γ : xG1} {d b0 : Nat} {Q : xO → xS → Prop} {K9 : Int32 → Int32 → Int32 → Int32 → xS → Prop} (hK9 : ∀ a1 a2 a3 a4 σ, K9 a1 a2 a3 a4 σ → xJ (SHP, γ) Y_VectorSolverModel_split (d + 5) b0 9 [(0, .ref 50), (1, .int a1), (2, .int a2), (3, .int a3), (4, .int a4)] [] σ Q) {a1 : Int32} {a2 : Int32} {a3 : Int32} {σ : xS} (h : w_VectorSolverModel_split_125 Q K9 a1 a2 a3 σ) : xJ (SHP, γ) Y_VectorSolverModel_split (d + 5) b0 125 [(0, .ref 50), (1, .int a1), (2, .int a2), (3, .int a3)] [] σ Q := by
  refine xJ.aload_n (o_VectorSolverModel_split 68 rfl) rfl ?_
  refine xJ.getfield (o_VectorSolverModel_split 69 rfl) f_VectorSolverModel_28 rfl rfl ?_
  refine xJ.iload_n (o_VectorSolverModel_split 70 rfl) rfl ?_
  refine xJ.iload_n (o_VectorSolverModel_split 71 rfl) rfl ?_
  refine xJ.iastore (o_VectorSolverModel_split 72 rfl) rfl h.1 ?_
  replace h := h.2
  replace h := h _ rfl
  refine xJ.aload_n (o_VectorSolverModel_split 73 rfl) rfl ?_
  refine xJ.getfield (o_VectorSolverModel_split 74 rfl) f_VectorSolverModel_35 rfl rfl ?_
  refine xJ.iload_n (o_VectorSolverModel_split 75 rfl) rfl ?_
  refine xJ.iconst (v := (-1)) (o_VectorSolverModel_split 76 rfl) (by decide) ?_
  refine xJ.bastore (o_VectorSolverModel_split 77 rfl) rfl h.1 ?_
  replace h := h.2
  replace h := h _ rfl
  refine xJ.iload_n (o_VectorSolverModel_split 78 rfl) rfl ?_
  refine xJ.aload_n (o_VectorSolverModel_split 79 rfl) rfl ?_
  refine xJ.getfield (o_VectorSolverModel_split 80 rfl) f_VectorSolverModel_129 rfl rfl ?_
  refine xJ.icmp_ge (tgt := 160) (o_VectorSolverModel_split 81 rfl) (by decide) (fun z => ?_) (fun z => ?_)
  · replace h := h.1 z
    refine xJ.iconst (v := 0) (o_VectorSolverModel_split 89 rfl) (by decide) ?_
    exact xJ.lvs (by exact ⟨rfl, rfl, rfl, rfl, trivial⟩) (sw_VectorSolverModel_split_161 hK9 h)
  · replace h := h.2 z
    refine xJ.aload_n (o_VectorSolverModel_split 82 rfl) rfl ?_
    refine xJ.getfield (o_VectorSolverModel_split 83 rfl) f_VectorSolverModel_16 rfl rfl ?_
    refine xJ.iload_n (o_VectorSolverModel_split 84 rfl) rfl ?_
    refine xJ.baload (o_VectorSolverModel_split 85 rfl) rfl h.1 ?_
    replace h := h.2
    refine xJ.sipush (v := 255) (o_VectorSolverModel_split 86 rfl) (by decide) ?_
    refine xJ.iand (o_VectorSolverModel_split 87 rfl) ?_
    refine xJ.goto (tgt := 161) (o_VectorSolverModel_split 88 rfl) (by decide) ?_
    exact xJ.lvs (by exact ⟨rfl, rfl, rfl, rfl, trivial⟩) (sw_VectorSolverModel_split_161 hK9 h)
set_option maxRecDepth 20000 in
theorem sw_VectorSolverModel_split_101 {γ : xG1} {d b0 : Nat} {Q : xO → xS → Prop} {K17 : Int32 → Int32 → Int32 → Int32 → xS → Prop} (hK17 : ∀ a1 a2 a3 a5 σ, K17 a1 a2 a3 a5 σ → xJ (SHP, γ) Y_VectorSolverModel_split (d + 5) b0 17 [(0, .ref 50), (1, .int a1), (2, .int a2), (3, .int a3), (5, .int a5)] [] σ Q) {a1 : Int32} {a2 : Int32} {a3 : Int32} {σ : xS} (h : w_VectorSolverModel_split_101 Q K17 a1 a2 a3 σ) : xJ (SHP, γ) Y_VectorSolverModel_split (d + 5) b0 101 [(0, .ref 50), (1, .int a1), (2, .int a2), (3, .int a3)] [] σ Q := by
  refine xJ.aload_n (o_VectorSolverModel_split 56 rfl) rfl ?_
  refine xJ.getfield (o_VectorSolverModel_split 57 rfl) f_VectorSolverModel_16 rfl rfl ?_
  refine xJ.iload_n (o_VectorSolverModel_split 58 rfl) rfl ?_
  refine xJ.baload (o_VectorSolverModel_split 59 rfl) rfl h.1 ?_
  replace h := h.2
  refine xJ.bipush (v := 10) (o_VectorSolverModel_split 60 rfl) (by decide) ?_
  refine xJ.icmp_eq (tgt := 116) (o_VectorSolverModel_split 61 rfl) (by decide) (fun z => ?_) (fun z => ?_)
  · replace h := h.1 z
    refine xJ.iconst (v := 0) (o_VectorSolverModel_split 64 rfl) (by decide) ?_
    refine xJ.istore (o_VectorSolverModel_split 65 rfl) (by decide) ?_
    refine xJ.iincC (w := 1) (o_VectorSolverModel_split 66 rfl) rfl (by decide) (by decide) ?_
    replace h := h _ rfl
    refine xJ.goto (tgt := 17) (o_VectorSolverModel_split 67 rfl) (by decide) ?_
    exact xJ.lvs (by exact ⟨rfl, rfl, rfl, rfl, rfl, trivial⟩) (hK17 _ _ _ _ _ h)
  · replace h := h.2 z
    refine xJ.iconst (v := 1) (o_VectorSolverModel_split 62 rfl) (by decide) ?_
    refine xJ.goto (tgt := 117) (o_VectorSolverModel_split 63 rfl) (by decide) ?_
    refine xJ.istore (o_VectorSolverModel_split 65 rfl) (by decide) ?_
    refine xJ.iincC (w := 1) (o_VectorSolverModel_split 66 rfl) rfl (by decide) (by decide) ?_
    replace h := h _ rfl
    refine xJ.goto (tgt := 17) (o_VectorSolverModel_split 67 rfl) (by decide) ?_
    exact xJ.lvs (by exact ⟨rfl, rfl, rfl, rfl, rfl, trivial⟩) (hK17 _ _ _ _ _ h)
set_option maxRecDepth 20000 in
theorem sw_VectorSolverModel_split_85 {γ : xG1} {d b0 : Nat} {Q : xO → xS → Prop} {K17 : Int32 → Int32 → Int32 → Int32 → xS → Prop} (hK17 : ∀ a1 a2 a3 a5 σ, K17 a1 a2 a3 a5 σ → xJ (SHP, γ) Y_VectorSolverModel_split (d + 5) b0 17 [(0, .ref 50), (1, .int a1), (2, .int a2), (3, .int a3), (5, .int a5)] [] σ Q) {a1 : Int32} {a2 : Int32} {a3 : Int32} {a5 : Int32} {σ : xS} (h : w_VectorSolverModel_split_85 Q K17 a1 a2 a3 a5 σ) : xJ (SHP, γ) Y_VectorSolverModel_split (d + 5) b0 85 [(0, .ref 50), (1, .int a1), (2, .int a2), (3, .int a3), (5, .int a5)] [] σ Q := by
  refine xJ.iload (o_VectorSolverModel_split 48 rfl) rfl ?_
  refine xJ.if_ne (tgt := 101) (o_VectorSolverModel_split 49 rfl) (by decide) (fun z => ?_) (fun z => ?_)
  · replace h := h.1 z
    exact xJ.lvs (by exact ⟨rfl, rfl, rfl, rfl, trivial⟩) (sw_VectorSolverModel_split_101 hK17 h)
  · replace h := h.2 z
    refine xJ.aload_n (o_VectorSolverModel_split 50 rfl) rfl ?_
    refine xJ.getfield (o_VectorSolverModel_split 51 rfl) f_VectorSolverModel_16 rfl rfl ?_
    refine xJ.iload_n (o_VectorSolverModel_split 52 rfl) rfl ?_
    refine xJ.baload (o_VectorSolverModel_split 53 rfl) rfl h.1 ?_
    replace h := h.2
    refine xJ.bipush (v := 59) (o_VectorSolverModel_split 54 rfl) (by decide) ?_
    refine xJ.icmp_ne (tgt := 116) (o_VectorSolverModel_split 55 rfl) (by decide) (fun z => ?_) (fun z => ?_)
    · replace h := h.1 z
      refine xJ.iconst (v := 0) (o_VectorSolverModel_split 64 rfl) (by decide) ?_
      refine xJ.istore (o_VectorSolverModel_split 65 rfl) (by decide) ?_
      refine xJ.iincC (w := 1) (o_VectorSolverModel_split 66 rfl) rfl (by decide) (by decide) ?_
      replace h := h _ rfl
      refine xJ.goto (tgt := 17) (o_VectorSolverModel_split 67 rfl) (by decide) ?_
      exact xJ.lvs (by exact ⟨rfl, rfl, rfl, rfl, rfl, trivial⟩) (hK17 _ _ _ _ _ h)
    · replace h := h.2 z
      exact xJ.lvs (by exact ⟨rfl, rfl, rfl, rfl, trivial⟩) (sw_VectorSolverModel_split_101 hK17 h)
set_option maxRecDepth 20000 in
theorem sw_VectorSolverModel_split_17 {γ : xG1} {d b0 : Nat} {Q : xO → xS → Prop} {K9 : Int32 → Int32 → Int32 → Int32 → xS → Prop} (hK9 : ∀ a1 a2 a3 a4 σ, K9 a1 a2 a3 a4 σ → xJ (SHP, γ) Y_VectorSolverModel_split (d + 5) b0 9 [(0, .ref 50), (1, .int a1), (2, .int a2), (3, .int a3), (4, .int a4)] [] σ Q) : ∀ (n : Nat) (a1 : Int32) (a2 : Int32) (a3 : Int32) (a5 : Int32) (σ : xS), w_VectorSolverModel_split_17 Q K9 n a1 a2 a3 a5 σ → xJ (SHP, γ) Y_VectorSolverModel_split (d + 5) b0 17 [(0, .ref 50), (1, .int a1), (2, .int a2), (3, .int a3), (5, .int a5)] [] σ Q := by
  intro n
  induction n with
  | zero => intro a1 a2 a3 a5 σ h; exact h.elim
  | succ n ih =>
    intro a1 a2 a3 a5 σ h
    refine xJ.iload_n (o_VectorSolverModel_split 12 rfl) rfl ?_
    refine xJ.aload_n (o_VectorSolverModel_split 13 rfl) rfl ?_
    refine xJ.getfield (o_VectorSolverModel_split 14 rfl) f_VectorSolverModel_129 rfl rfl ?_
    refine xJ.icmp_ge (tgt := 125) (o_VectorSolverModel_split 15 rfl) (by decide) (fun z => ?_) (fun z => ?_)
    · replace h := h.1 z
      exact xJ.lvs (by exact ⟨rfl, rfl, rfl, rfl, trivial⟩) (sw_VectorSolverModel_split_125 hK9 h)
    · replace h := h.2 z
      refine xJ.iload (o_VectorSolverModel_split 16 rfl) rfl ?_
      refine xJ.if_ne (tgt := 85) (o_VectorSolverModel_split 17 rfl) (by decide) (fun z => ?_) (fun z => ?_)
      · replace h := h.1 z
        exact xJ.lvs (by exact ⟨rfl, rfl, rfl, rfl, rfl, trivial⟩) (sw_VectorSolverModel_split_85 ih h)
      · replace h := h.2 z
        refine xJ.aload_n (o_VectorSolverModel_split 18 rfl) rfl ?_
        refine xJ.getfield (o_VectorSolverModel_split 19 rfl) f_VectorSolverModel_16 rfl rfl ?_
        refine xJ.iload_n (o_VectorSolverModel_split 20 rfl) rfl ?_
        refine xJ.baload (o_VectorSolverModel_split 21 rfl) rfl h.1 ?_
        replace h := h.2
        refine xJ.bipush (v := 9) (o_VectorSolverModel_split 22 rfl) (by decide) ?_
        refine xJ.icmp_eq (tgt := 85) (o_VectorSolverModel_split 23 rfl) (by decide) (fun z => ?_) (fun z => ?_)
        · replace h := h.1 z
          exact xJ.lvs (by exact ⟨rfl, rfl, rfl, rfl, rfl, trivial⟩) (sw_VectorSolverModel_split_85 ih h)
        · replace h := h.2 z
          refine xJ.aload_n (o_VectorSolverModel_split 24 rfl) rfl ?_
          refine xJ.getfield (o_VectorSolverModel_split 25 rfl) f_VectorSolverModel_16 rfl rfl ?_
          refine xJ.iload_n (o_VectorSolverModel_split 26 rfl) rfl ?_
          refine xJ.baload (o_VectorSolverModel_split 27 rfl) rfl h.1 ?_
          replace h := h.2
          refine xJ.bipush (v := 10) (o_VectorSolverModel_split 28 rfl) (by decide) ?_
          refine xJ.icmp_eq (tgt := 85) (o_VectorSolverModel_split 29 rfl) (by decide) (fun z => ?_) (fun z => ?_)
          · replace h := h.1 z
            exact xJ.lvs (by exact ⟨rfl, rfl, rfl, rfl, rfl, trivial⟩) (sw_VectorSolverModel_split_85 ih h)
          · replace h := h.2 z
            refine xJ.aload_n (o_VectorSolverModel_split 30 rfl) rfl ?_
            refine xJ.getfield (o_VectorSolverModel_split 31 rfl) f_VectorSolverModel_16 rfl rfl ?_
            refine xJ.iload_n (o_VectorSolverModel_split 32 rfl) rfl ?_
            refine xJ.baload (o_VectorSolverModel_split 33 rfl) rfl h.1 ?_
            replace h := h.2
            refine xJ.bipush (v := 13) (o_VectorSolverModel_split 34 rfl) (by decide) ?_
            refine xJ.icmp_eq (tgt := 85) (o_VectorSolverModel_split 35 rfl) (by decide) (fun z => ?_) (fun z => ?_)
            · replace h := h.1 z
              exact xJ.lvs (by exact ⟨rfl, rfl, rfl, rfl, rfl, trivial⟩) (sw_VectorSolverModel_split_85 ih h)
            · replace h := h.2 z
              refine xJ.aload_n (o_VectorSolverModel_split 36 rfl) rfl ?_
              refine xJ.getfield (o_VectorSolverModel_split 37 rfl) f_VectorSolverModel_16 rfl rfl ?_
              refine xJ.iload_n (o_VectorSolverModel_split 38 rfl) rfl ?_
              refine xJ.baload (o_VectorSolverModel_split 39 rfl) rfl h.1 ?_
              replace h := h.2
              refine xJ.bipush (v := 32) (o_VectorSolverModel_split 40 rfl) (by decide) ?_
              refine xJ.icmp_eq (tgt := 85) (o_VectorSolverModel_split 41 rfl) (by decide) (fun z => ?_) (fun z => ?_)
              · replace h := h.1 z
                exact xJ.lvs (by exact ⟨rfl, rfl, rfl, rfl, rfl, trivial⟩) (sw_VectorSolverModel_split_85 ih h)
              · replace h := h.2 z
                refine xJ.aload_n (o_VectorSolverModel_split 42 rfl) rfl ?_
                refine xJ.getfield (o_VectorSolverModel_split 43 rfl) f_VectorSolverModel_16 rfl rfl ?_
                refine xJ.iload_n (o_VectorSolverModel_split 44 rfl) rfl ?_
                refine xJ.baload (o_VectorSolverModel_split 45 rfl) rfl h.1 ?_
                replace h := h.2
                refine xJ.bipush (v := 59) (o_VectorSolverModel_split 46 rfl) (by decide) ?_
                refine xJ.icmp_ne (tgt := 125) (o_VectorSolverModel_split 47 rfl) (by decide) (fun z => ?_) (fun z => ?_)
                · replace h := h.1 z
                  exact xJ.lvs (by exact ⟨rfl, rfl, rfl, rfl, trivial⟩) (sw_VectorSolverModel_split_125 hK9 h)
                · replace h := h.2 z
                  exact xJ.lvs (by exact ⟨rfl, rfl, rfl, rfl, rfl, trivial⟩) (sw_VectorSolverModel_split_85 ih h)
set_option maxRecDepth 20000 in
theorem sw_VectorSolverModel_split_9 {γ : xG1} {d b0 : Nat} {Q : xO → xS → Prop} : ∀ (n : Nat) (a1 : Int32) (a2 : Int32) (a3 : Int32) (a4 : Int32) (σ : xS), w_VectorSolverModel_split_9 Q n a1 a2 a3 a4 σ → xJ (SHP, γ) Y_VectorSolverModel_split (d + 5) b0 9 [(0, .ref 50), (1, .int a1), (2, .int a2), (3, .int a3), (4, .int a4)] [] σ Q := by
  intro n
  induction n with
  | zero => intro a1 a2 a3 a4 σ h; exact h.elim
  | succ n ih =>
    intro a1 a2 a3 a4 σ h
    refine xJ.iload (o_VectorSolverModel_split 8 rfl) rfl ?_
    refine xJ.if_eq (tgt := 383) (o_VectorSolverModel_split 9 rfl) (by decide) (fun z => ?_) (fun z => ?_)
    · replace h := h.1 z
      exact xJ.return_ (o_VectorSolverModel_split 208 rfl) rfl h
    · replace h := h.2 z
      refine xJ.iconst (v := 0) (o_VectorSolverModel_split 10 rfl) (by decide) ?_
      refine xJ.istore (o_VectorSolverModel_split 11 rfl) (by decide) ?_
      obtain ⟨m, h⟩ := h
      exact xJ.lvs (by exact ⟨rfl, rfl, rfl, rfl, rfl, trivial⟩) (sw_VectorSolverModel_split_17 ih m _ _ _ _ _ h)
set_option maxRecDepth 20000 in
theorem s_VectorSolverModel_split {γ : xG1} {d : Nat} {Q : xO → xS → Prop} {σ : xS}  (h : wp_VectorSolverModel_split Q σ ) : xM (SHP, γ) Y_VectorSolverModel_split (d + 5) [.ref 50] σ Q := by
  refine xM.of (by decide) (Nat.le_of_ble_eq_true rfl) ?_
  refine xJ.iconst (v := 0) (o_VectorSolverModel_split 0 rfl) (by decide) ?_
  refine xJ.istore_n (o_VectorSolverModel_split 1 rfl) (by decide) ?_
  refine xJ.iconst (v := 0) (o_VectorSolverModel_split 2 rfl) (by decide) ?_
  refine xJ.istore_n (o_VectorSolverModel_split 3 rfl) (by decide) ?_
  refine xJ.iconst (v := 0) (o_VectorSolverModel_split 4 rfl) (by decide) ?_
  refine xJ.istore_n (o_VectorSolverModel_split 5 rfl) (by decide) ?_
  refine xJ.iconst (v := 1) (o_VectorSolverModel_split 6 rfl) (by decide) ?_
  refine xJ.istore (o_VectorSolverModel_split 7 rfl) (by decide) ?_
  obtain ⟨m, h⟩ := h
  exact xJ.lvs (by exact ⟨rfl, rfl, rfl, rfl, rfl, trivial⟩) (sw_VectorSolverModel_split_9 m _ _ _ _ _ h)
def w_VectorSolverModel_read_103 (Q : xO → xS → Prop) (a1 : Int32) (a2 : Int32) (a3 : Int32) (a4 : Int32) (a5 : Int32) (a6 : Int32) (a7 : Int32) (a8 : Int32) (σ : xS) : Prop :=
  (∀ s16 : xS, s16 = xpi σ 50 3 0 → (((xi s16 50 4) ≤ 0 → Q (.inl (some (.int a8))) s16) ∧ (¬ (xi s16 50 4) ≤ 0 → (∀ s17 : xS, s17 = xpi s16 50 11 a1 → (∀ s18 : xS, s18 = xpi s17 50 21 a2 → (∀ s19 : xS, s19 = xpi s18 50 23 a3 → (∀ s20 : xS, s20 = xpi s19 50 27 a4 → (∀ s21 : xS, s21 = xpi s20 50 42 a5 → (∀ s22 : xS, s22 = xpi s21 50 45 a6 → (∀ s23 : xS, s23 = xpi s22 50 44 a7 → Q (.inl (some (.int (-1)))) s23))))))))))
def w_VectorSolverModel_read_70 (Q : xO → xS → Prop) : Nat → Int32 → Int32 → Int32 → Int32 → Int32 → Int32 → Int32 → Int32 → xS → Prop
  | 0 => fun _ _ _ _ _ _ _ _ _ => False
  | n + 1 => fun a1 a2 a3 a4 a5 a6 a7 a8 σ =>
    ((¬ (xi σ 50 4) = 0 → w_VectorSolverModel_read_103 Q a1 a2 a3 a4 a5 a6 a7 a8 σ) ∧ ((xi σ 50 4) = 0 → (vp_in (xi σ 50 10) 65537 ∧ (((xi σ 52 (xi σ 50 10).toNatClampNeg) = 0 → w_VectorSolverModel_read_103 Q a1 a2 a3 a4 a5 a6 a7 a8 σ) ∧ (¬ (xi σ 52 (xi σ 50 10).toNatClampNeg) = 0 → wp_VectorSolverModel_command (xqv (fun u24 => wp_VectorSolverModel_next (xqv (fun u26 => (∀ x28 : Int32, x28 = a8 + 1 → w_VectorSolverModel_read_70 Q n a1 a2 a3 a4 a5 a6 a7 x28 u26)) (fun n u => Q (.inr n) u)) u24 ) (fun n u => Q (.inr n) u)) σ )))))
def wp_VectorSolverModel_read (Q : xO → xS → Prop) (σ : xS)  : Prop :=
  (∀ s1 : xS, s1 = xpi σ 50 1 0 → (∀ x2 : Int32, x2 = (xi s1 50 11) → (∀ x3 : Int32, x3 = (xi s1 50 21) → (∀ x4 : Int32, x4 = (xi s1 50 23) → (∀ x5 : Int32, x5 = (xi s1 50 27) → (∀ x6 : Int32, x6 = (xi s1 50 42) → (∀ x7 : Int32, x7 = (xi s1 50 45) → (∀ x8 : Int32, x8 = (xi s1 50 44) → (∀ s9 : xS, s9 = xpi s1 50 4 0 → (∀ s10 : xS, s10 = xpi s9 50 5 (-1) → wp_VectorSolverModel_split (xqv (fun u11 => (∀ s13 : xS, s13 = xpi u11 50 10 (-1) → wp_VectorSolverModel_next (xqv (fun u14 => ∃ m, w_VectorSolverModel_read_70 Q m x2 x3 x4 x5 x6 x7 x8 0 u14) (fun n u => Q (.inr n) u)) s13 )) (fun n u => Q (.inr n) u)) s10 ))))))))))
set_option maxRecDepth 20000 in
theorem sw_VectorSolverModel_read_103 {γ : xG1} {d b0 : Nat} {Q : xO → xS → Prop} {a1 : Int32} {a2 : Int32} {a3 : Int32} {a4 : Int32} {a5 : Int32} {a6 : Int32} {a7 : Int32} {a8 : Int32} {σ : xS} (h : w_VectorSolverModel_read_103 Q a1 a2 a3 a4 a5 a6 a7 a8 σ) : xJ (SHP, γ) Y_VectorSolverModel_read (d + 8) b0 103 [(0, .ref 50), (1, .int a1), (2, .int a2), (3, .int a3), (4, .int a4), (5, .int a5), (6, .int a6), (7, .int a7), (8, .int a8)] [] σ Q := by
  refine xJ.aload_n (o_VectorSolverModel_read 54 rfl) rfl ?_
  refine xJ.iconst (v := 0) (o_VectorSolverModel_read 55 rfl) (by decide) ?_
  refine xJ.putI (o_VectorSolverModel_read 56 rfl) f_VectorSolverModel_129 rfl rfl rfl ?_
  replace h := h _ rfl
  refine xJ.aload_n (o_VectorSolverModel_read 57 rfl) rfl ?_
  refine xJ.getfield (o_VectorSolverModel_read 58 rfl) f_VectorSolverModel_166 rfl rfl ?_
  refine xJ.if_le (tgt := 156) (o_VectorSolverModel_read 59 rfl) (by decide) (fun z => ?_) (fun z => ?_)
  · replace h := h.1 z
    refine xJ.iload (o_VectorSolverModel_read 83 rfl) rfl ?_
    exact xJ.ireturn (o_VectorSolverModel_read 84 rfl) rfl h
  · replace h := h.2 z
    refine xJ.aload_n (o_VectorSolverModel_read 60 rfl) rfl ?_
    refine xJ.iload_n (o_VectorSolverModel_read 61 rfl) rfl ?_
    refine xJ.putI (o_VectorSolverModel_read 62 rfl) f_VectorSolverModel_220 rfl rfl rfl ?_
    replace h := h _ rfl
    refine xJ.aload_n (o_VectorSolverModel_read 63 rfl) rfl ?_
    refine xJ.iload_n (o_VectorSolverModel_read 64 rfl) rfl ?_
    refine xJ.putI (o_VectorSolverModel_read 65 rfl) f_VectorSolverModel_227 rfl rfl rfl ?_
    replace h := h _ rfl
    refine xJ.aload_n (o_VectorSolverModel_read 66 rfl) rfl ?_
    refine xJ.iload_n (o_VectorSolverModel_read 67 rfl) rfl ?_
    refine xJ.putI (o_VectorSolverModel_read 68 rfl) f_VectorSolverModel_183 rfl rfl rfl ?_
    replace h := h _ rfl
    refine xJ.aload_n (o_VectorSolverModel_read 69 rfl) rfl ?_
    refine xJ.iload (o_VectorSolverModel_read 70 rfl) rfl ?_
    refine xJ.putI (o_VectorSolverModel_read 71 rfl) f_VectorSolverModel_255 rfl rfl rfl ?_
    replace h := h _ rfl
    refine xJ.aload_n (o_VectorSolverModel_read 72 rfl) rfl ?_
    refine xJ.iload (o_VectorSolverModel_read 73 rfl) rfl ?_
    refine xJ.putI (o_VectorSolverModel_read 74 rfl) f_VectorSolverModel_246 rfl rfl rfl ?_
    replace h := h _ rfl
    refine xJ.aload_n (o_VectorSolverModel_read 75 rfl) rfl ?_
    refine xJ.iload (o_VectorSolverModel_read 76 rfl) rfl ?_
    refine xJ.putI (o_VectorSolverModel_read 77 rfl) f_VectorSolverModel_249 rfl rfl rfl ?_
    replace h := h _ rfl
    refine xJ.aload_n (o_VectorSolverModel_read 78 rfl) rfl ?_
    refine xJ.iload (o_VectorSolverModel_read 79 rfl) rfl ?_
    refine xJ.putI (o_VectorSolverModel_read 80 rfl) f_VectorSolverModel_223 rfl rfl rfl ?_
    replace h := h _ rfl
    refine xJ.iconst (v := (-1)) (o_VectorSolverModel_read 81 rfl) (by decide) ?_
    exact xJ.ireturn (o_VectorSolverModel_read 82 rfl) rfl h
set_option maxRecDepth 20000 in
theorem sw_VectorSolverModel_read_70 {γ : xG1} {d b0 : Nat} {Q : xO → xS → Prop} : ∀ (n : Nat) (a1 : Int32) (a2 : Int32) (a3 : Int32) (a4 : Int32) (a5 : Int32) (a6 : Int32) (a7 : Int32) (a8 : Int32) (σ : xS), w_VectorSolverModel_read_70 Q n a1 a2 a3 a4 a5 a6 a7 a8 σ → xJ (SHP, γ) Y_VectorSolverModel_read (d + 8) b0 70 [(0, .ref 50), (1, .int a1), (2, .int a2), (3, .int a3), (4, .int a4), (5, .int a5), (6, .int a6), (7, .int a7), (8, .int a8)] [] σ Q := by
  intro n
  induction n with
  | zero => intro a1 a2 a3 a4 a5 a6 a7 a8 σ h; exact h.elim
  | succ n ih =>
    intro a1 a2 a3 a4 a5 a6 a7 a8 σ h
    refine xJ.aload_n (o_VectorSolverModel_read 39 rfl) rfl ?_
    refine xJ.getfield (o_VectorSolverModel_read 40 rfl) f_VectorSolverModel_166 rfl rfl ?_
    refine xJ.if_ne (tgt := 103) (o_VectorSolverModel_read 41 rfl) (by decide) (fun z => ?_) (fun z => ?_)
    · replace h := h.1 z
      exact xJ.lvs (by exact ⟨rfl, rfl, rfl, rfl, rfl, rfl, rfl, rfl, rfl, trivial⟩) (sw_VectorSolverModel_read_103 h)
    · replace h := h.2 z
      refine xJ.aload_n (o_VectorSolverModel_read 42 rfl) rfl ?_
      refine xJ.getfield (o_VectorSolverModel_read 43 rfl) f_VectorSolverModel_25 rfl rfl ?_
      refine xJ.aload_n (o_VectorSolverModel_read 44 rfl) rfl ?_
      refine xJ.getfield (o_VectorSolverModel_read 45 rfl) f_VectorSolverModel_169 rfl rfl ?_
      refine xJ.baload (o_VectorSolverModel_read 46 rfl) rfl h.1 ?_
      replace h := h.2
      refine xJ.if_eq (tgt := 103) (o_VectorSolverModel_read 47 rfl) (by decide) (fun z => ?_) (fun z => ?_)
      · replace h := h.1 z
        exact xJ.lvs (by exact ⟨rfl, rfl, rfl, rfl, rfl, rfl, rfl, rfl, rfl, trivial⟩) (sw_VectorSolverModel_read_103 h)
      · replace h := h.2 z
        refine xJ.aload_n (o_VectorSolverModel_read 48 rfl) rfl ?_
        refine xJ.callV (Y' := Y_VectorSolverModel_command) (o_VectorSolverModel_read 49 rfl) m_VectorSolverModel_332 y_VectorSolverModel_command im_VectorSolverModel_command se_VectorSolverModel_command rfl rfl (s_VectorSolverModel_command h) rfl rfl (Nat.le_of_ble_eq_true rfl) (fun _ hx => by cases hx) (fun v u q => ?_) (fun n u q => q)
        obtain ⟨rfl, h⟩ := xqv_get q
        refine xJ.aload_n (o_VectorSolverModel_read 50 rfl) rfl ?_
        refine xJ.callV (Y' := Y_VectorSolverModel_next) (o_VectorSolverModel_read 51 rfl) m_VectorSolverModel_176 y_VectorSolverModel_next im_VectorSolverModel_next se_VectorSolverModel_next rfl rfl (s_VectorSolverModel_next h) rfl rfl (Nat.le_of_ble_eq_true rfl) (fun _ hx => by cases hx) (fun v u q => ?_) (fun n u q => q)
        obtain ⟨rfl, h⟩ := xqv_get q
        refine xJ.iincC (w := 1) (o_VectorSolverModel_read 52 rfl) rfl (by decide) (by decide) ?_
        replace h := h _ rfl
        refine xJ.goto (tgt := 70) (o_VectorSolverModel_read 53 rfl) (by decide) ?_
        exact xJ.lvs (by exact ⟨rfl, rfl, rfl, rfl, rfl, rfl, rfl, rfl, rfl, trivial⟩) (ih _ _ _ _ _ _ _ _ _ h)
set_option maxRecDepth 20000 in
theorem s_VectorSolverModel_read {γ : xG1} {d : Nat} {Q : xO → xS → Prop} {σ : xS}  (h : wp_VectorSolverModel_read Q σ ) : xM (SHP, γ) Y_VectorSolverModel_read (d + 8) [.ref 50] σ Q := by
  refine xM.of (by decide) (Nat.le_of_ble_eq_true rfl) ?_
  refine xJ.aload_n (o_VectorSolverModel_read 0 rfl) rfl ?_
  refine xJ.iconst (v := 0) (o_VectorSolverModel_read 1 rfl) (by decide) ?_
  refine xJ.putI (o_VectorSolverModel_read 2 rfl) f_VectorSolverModel_126 rfl rfl rfl ?_
  replace h := h _ rfl
  refine xJ.aload_n (o_VectorSolverModel_read 3 rfl) rfl ?_
  refine xJ.getfield (o_VectorSolverModel_read 4 rfl) f_VectorSolverModel_220 rfl rfl ?_
  refine xJ.istore_n (o_VectorSolverModel_read 5 rfl) (by decide) ?_
  replace h := h _ rfl
  refine xJ.aload_n (o_VectorSolverModel_read 6 rfl) rfl ?_
  refine xJ.getfield (o_VectorSolverModel_read 7 rfl) f_VectorSolverModel_227 rfl rfl ?_
  refine xJ.istore_n (o_VectorSolverModel_read 8 rfl) (by decide) ?_
  replace h := h _ rfl
  refine xJ.aload_n (o_VectorSolverModel_read 9 rfl) rfl ?_
  refine xJ.getfield (o_VectorSolverModel_read 10 rfl) f_VectorSolverModel_183 rfl rfl ?_
  refine xJ.istore_n (o_VectorSolverModel_read 11 rfl) (by decide) ?_
  replace h := h _ rfl
  refine xJ.aload_n (o_VectorSolverModel_read 12 rfl) rfl ?_
  refine xJ.getfield (o_VectorSolverModel_read 13 rfl) f_VectorSolverModel_255 rfl rfl ?_
  refine xJ.istore (o_VectorSolverModel_read 14 rfl) (by decide) ?_
  replace h := h _ rfl
  refine xJ.aload_n (o_VectorSolverModel_read 15 rfl) rfl ?_
  refine xJ.getfield (o_VectorSolverModel_read 16 rfl) f_VectorSolverModel_246 rfl rfl ?_
  refine xJ.istore (o_VectorSolverModel_read 17 rfl) (by decide) ?_
  replace h := h _ rfl
  refine xJ.aload_n (o_VectorSolverModel_read 18 rfl) rfl ?_
  refine xJ.getfield (o_VectorSolverModel_read 19 rfl) f_VectorSolverModel_249 rfl rfl ?_
  refine xJ.istore (o_VectorSolverModel_read 20 rfl) (by decide) ?_
  replace h := h _ rfl
  refine xJ.aload_n (o_VectorSolverModel_read 21 rfl) rfl ?_
  refine xJ.getfield (o_VectorSolverModel_read 22 rfl) f_VectorSolverModel_223 rfl rfl ?_
  refine xJ.istore (o_VectorSolverModel_read 23 rfl) (by decide) ?_
  replace h := h _ rfl
  refine xJ.aload_n (o_VectorSolverModel_read 24 rfl) rfl ?_
  refine xJ.iconst (v := 0) (o_VectorSolverModel_read 25 rfl) (by decide) ?_
  refine xJ.putI (o_VectorSolverModel_read 26 rfl) f_VectorSolverModel_166 rfl rfl rfl ?_
  replace h := h _ rfl
  refine xJ.aload_n (o_VectorSolverModel_read 27 rfl) rfl ?_
  refine xJ.iconst (v := (-1)) (o_VectorSolverModel_read 28 rfl) (by decide) ?_
  refine xJ.putI (o_VectorSolverModel_read 29 rfl) f_VectorSolverModel_20 rfl rfl rfl ?_
  replace h := h _ rfl
  refine xJ.aload_n (o_VectorSolverModel_read 30 rfl) rfl ?_
  refine xJ.callV (Y' := Y_VectorSolverModel_split) (o_VectorSolverModel_read 31 rfl) m_VectorSolverModel_329 y_VectorSolverModel_split im_VectorSolverModel_split se_VectorSolverModel_split rfl rfl (s_VectorSolverModel_split h) rfl rfl (Nat.le_of_ble_eq_true rfl) (fun _ hx => by cases hx) (fun v u q => ?_) (fun n u q => q)
  obtain ⟨rfl, h⟩ := xqv_get q
  refine xJ.aload_n (o_VectorSolverModel_read 32 rfl) rfl ?_
  refine xJ.iconst (v := (-1)) (o_VectorSolverModel_read 33 rfl) (by decide) ?_
  refine xJ.putI (o_VectorSolverModel_read 34 rfl) f_VectorSolverModel_169 rfl rfl rfl ?_
  replace h := h _ rfl
  refine xJ.iconst (v := 0) (o_VectorSolverModel_read 35 rfl) (by decide) ?_
  refine xJ.istore (o_VectorSolverModel_read 36 rfl) (by decide) ?_
  refine xJ.aload_n (o_VectorSolverModel_read 37 rfl) rfl ?_
  refine xJ.callV (Y' := Y_VectorSolverModel_next) (o_VectorSolverModel_read 38 rfl) m_VectorSolverModel_176 y_VectorSolverModel_next im_VectorSolverModel_next se_VectorSolverModel_next rfl rfl (s_VectorSolverModel_next h) rfl rfl (Nat.le_of_ble_eq_true rfl) (fun _ hx => by cases hx) (fun v u q => ?_) (fun n u q => q)
  obtain ⟨rfl, h⟩ := xqv_get q
  obtain ⟨m, h⟩ := h
  exact xJ.lvs (by exact ⟨rfl, rfl, rfl, rfl, rfl, rfl, rfl, rfl, rfl, trivial⟩) (sw_VectorSolverModel_read_70 m _ _ _ _ _ _ _ _ _ h)
