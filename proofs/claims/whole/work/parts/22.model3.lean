def wp_VectorSolverModel_of (Q : xO → xS → Prop) (σ : xS) (a1 : Int32) (a2 : Int32) : Prop :=
  (vp_in a1 2000 ∧ (vp_in ((xi σ 59 a1.toNatClampNeg) + a2) 80000 ∧ Q (.inl (some (.int (xi σ 65 ((xi σ 59 a1.toNatClampNeg) + a2).toNatClampNeg)))) σ))
set_option maxRecDepth 20000 in
theorem s_VectorSolverModel_of {γ : xG1} {d : Nat} {Q : xO → xS → Prop} {σ : xS} {a1 : Int32} {a2 : Int32} (h : wp_VectorSolverModel_of Q σ a1 a2) : xM (SHP, γ) Y_VectorSolverModel_of (d + 0) [.ref 50, .int a1, .int a2] σ Q := by
  refine xM.of (by decide) (Nat.le_of_ble_eq_true rfl) ?_
  refine xJ.aload_n (o_VectorSolverModel_of 0 rfl) rfl ?_
  refine xJ.getfield (o_VectorSolverModel_of 1 rfl) f_VectorSolverModel_67 rfl rfl ?_
  refine xJ.aload_n (o_VectorSolverModel_of 2 rfl) rfl ?_
  refine xJ.getfield (o_VectorSolverModel_of 3 rfl) f_VectorSolverModel_47 rfl rfl ?_
  refine xJ.iload_n (o_VectorSolverModel_of 4 rfl) rfl ?_
  refine xJ.iaload (o_VectorSolverModel_of 5 rfl) rfl h.1 ?_
  replace h := h.2
  refine xJ.iload_n (o_VectorSolverModel_of 6 rfl) rfl ?_
  refine xJ.iadd (o_VectorSolverModel_of 7 rfl) ?_
  refine xJ.iaload (o_VectorSolverModel_of 8 rfl) rfl h.1 ?_
  replace h := h.2
  exact xJ.ireturn (o_VectorSolverModel_of 9 rfl) rfl h
def wp_VectorSolverModel_valueOf (Q : xO → xS → Prop) (σ : xS) (a1 : Int32) (a2 : Int32) : Prop :=
  wp_VectorSolverModel_of (xqi (fun r2 u1 => (vp_in (64 * r2) 128000 ∧ Q (.inl (some (.long (xl u1 81 (64 * r2).toNatClampNeg)))) u1)) (fun n u => Q (.inr n) u)) σ a1 a2
set_option maxRecDepth 20000 in
theorem s_VectorSolverModel_valueOf {γ : xG1} {d : Nat} {Q : xO → xS → Prop} {σ : xS} {a1 : Int32} {a2 : Int32} (h : wp_VectorSolverModel_valueOf Q σ a1 a2) : xM (SHP, γ) Y_VectorSolverModel_valueOf (d + 1) [.ref 50, .int a1, .int a2] σ Q := by
  refine xM.of (by decide) (Nat.le_of_ble_eq_true rfl) ?_
  refine xJ.aload_n (o_VectorSolverModel_valueOf 0 rfl) rfl ?_
  refine xJ.getfield (o_VectorSolverModel_valueOf 1 rfl) f_VectorSolverModel_116 rfl rfl ?_
  refine xJ.bipush (v := 64) (o_VectorSolverModel_valueOf 2 rfl) (by decide) ?_
  refine xJ.aload_n (o_VectorSolverModel_valueOf 3 rfl) rfl ?_
  refine xJ.iload_n (o_VectorSolverModel_valueOf 4 rfl) rfl ?_
  refine xJ.iload_n (o_VectorSolverModel_valueOf 5 rfl) rfl ?_
  refine xJ.callV (Y' := Y_VectorSolverModel_of) (o_VectorSolverModel_valueOf 6 rfl) m_VectorSolverModel_358 y_VectorSolverModel_of im_VectorSolverModel_of se_VectorSolverModel_of rfl rfl (s_VectorSolverModel_of h) rfl rfl (Nat.le_of_ble_eq_true rfl) (fun _ hx => by cases hx) (fun v u q => ?_) (fun n u q => q)
  obtain ⟨r, rfl, h⟩ := xqi_get q
  refine xJ.imul (o_VectorSolverModel_valueOf 7 rfl) ?_
  refine xJ.laload (o_VectorSolverModel_valueOf 8 rfl) rfl h.1 ?_
  replace h := h.2
  exact xJ.lreturn (o_VectorSolverModel_valueOf 9 rfl) rfl h
def wp_VectorSolverModel_cells (Q : xO → xS → Prop) (σ : xS) (a1 : Int32) : Prop :=
  (vp_in a1 2000 ∧ (((xi σ 57 a1.toNatClampNeg) ≤ 0 → Q (.inl (some (.int 1))) σ) ∧ (¬ (xi σ 57 a1.toNatClampNeg) ≤ 0 → (vp_in a1 2000 ∧ Q (.inl (some (.int (jishl 1 (xi σ 57 a1.toNatClampNeg))))) σ))))
set_option maxRecDepth 20000 in
theorem s_VectorSolverModel_cells {γ : xG1} {d : Nat} {Q : xO → xS → Prop} {σ : xS} {a1 : Int32} (h : wp_VectorSolverModel_cells Q σ a1) : xM (SHP, γ) Y_VectorSolverModel_cells (d + 0) [.ref 50, .int a1] σ Q := by
  refine xM.of (by decide) (Nat.le_of_ble_eq_true rfl) ?_
  refine xJ.aload_n (o_VectorSolverModel_cells 0 rfl) rfl ?_
  refine xJ.getfield (o_VectorSolverModel_cells 1 rfl) f_VectorSolverModel_41 rfl rfl ?_
  refine xJ.iload_n (o_VectorSolverModel_cells 2 rfl) rfl ?_
  refine xJ.iaload (o_VectorSolverModel_cells 3 rfl) rfl h.1 ?_
  replace h := h.2
  refine xJ.if_le (tgt := 20) (o_VectorSolverModel_cells 4 rfl) (by decide) (fun z => ?_) (fun z => ?_)
  · replace h := h.1 z
    refine xJ.iconst (v := 1) (o_VectorSolverModel_cells 12 rfl) (by decide) ?_
    exact xJ.ireturn (o_VectorSolverModel_cells 13 rfl) rfl h
  · replace h := h.2 z
    refine xJ.iconst (v := 1) (o_VectorSolverModel_cells 5 rfl) (by decide) ?_
    refine xJ.aload_n (o_VectorSolverModel_cells 6 rfl) rfl ?_
    refine xJ.getfield (o_VectorSolverModel_cells 7 rfl) f_VectorSolverModel_41 rfl rfl ?_
    refine xJ.iload_n (o_VectorSolverModel_cells 8 rfl) rfl ?_
    refine xJ.iaload (o_VectorSolverModel_cells 9 rfl) rfl h.1 ?_
    replace h := h.2
    refine xJ.ishl (o_VectorSolverModel_cells 10 rfl) ?_
    refine xJ.goto (tgt := 21) (o_VectorSolverModel_cells 11 rfl) (by decide) ?_
    exact xJ.ireturn (o_VectorSolverModel_cells 13 rfl) rfl h
def w_VectorSolverModel_areEqual_5 (Q : xO → xS → Prop) : Nat → Int32 → Int32 → Int32 → Int32 → xS → Prop
  | 0 => fun _ _ _ _ _ => False
  | n + 1 => fun a1 a2 a3 a4 σ =>
    wp_VectorSolverModel_cells (xqi (fun r2 u1 => ((r2 ≤ a4 → ((a3 = 0 ∨ a3 = 1) ∧ Q (.inl (some (.int a3))) u1)) ∧ (¬ r2 ≤ a4 → ((a3 = 0 → ((a3 = 0 ∨ a3 = 1) ∧ Q (.inl (some (.int a3))) u1)) ∧ (¬ a3 = 0 → (vp_in ((64 * a1) + a4) 128000 ∧ (vp_in ((64 * a2) + a4) 128000 ∧ ((¬ (lg_cmp (xl u1 81 ((64 * a1) + a4).toNatClampNeg) (xl u1 81 ((64 * a2) + a4).toNatClampNeg)) = 0 → (∀ x3 : Int32, x3 = a4 + 1 → w_VectorSolverModel_areEqual_5 Q n a1 a2 0 x3 u1)) ∧ ((lg_cmp (xl u1 81 ((64 * a1) + a4).toNatClampNeg) (xl u1 81 ((64 * a2) + a4).toNatClampNeg)) = 0 → (∀ x4 : Int32, x4 = a4 + 1 → w_VectorSolverModel_areEqual_5 Q n a1 a2 1 x4 u1)))))))))) (fun n u => Q (.inr n) u)) σ a1
def wp_VectorSolverModel_areEqual (Q : xO → xS → Prop) (σ : xS) (a1 : Int32) (a2 : Int32) : Prop :=
  ∃ m, w_VectorSolverModel_areEqual_5 Q m a1 a2 1 0 σ
set_option maxRecDepth 20000 in
theorem sw_VectorSolverModel_areEqual_5 {γ : xG1} {d b0 : Nat} {Q : xO → xS → Prop} : ∀ (n : Nat) (a1 : Int32) (a2 : Int32) (a3 : Int32) (a4 : Int32) (σ : xS), w_VectorSolverModel_areEqual_5 Q n a1 a2 a3 a4 σ → xJ (SHP, γ) Y_VectorSolverModel_areEqual (d + 1) b0 5 [(0, .ref 50), (1, .int a1), (2, .int a2), (3, .int a3), (4, .int a4)] [] σ Q := by
  intro n
  induction n with
  | zero => intro a1 a2 a3 a4 σ h; exact h.elim
  | succ n ih =>
    intro a1 a2 a3 a4 σ h
    refine xJ.iload (o_VectorSolverModel_areEqual 4 rfl) rfl ?_
    refine xJ.aload_n (o_VectorSolverModel_areEqual 5 rfl) rfl ?_
    refine xJ.iload_n (o_VectorSolverModel_areEqual 6 rfl) rfl ?_
    refine xJ.callV (Y' := Y_VectorSolverModel_cells) (o_VectorSolverModel_areEqual 7 rfl) m_VectorSolverModel_361 y_VectorSolverModel_cells im_VectorSolverModel_cells se_VectorSolverModel_cells rfl rfl (s_VectorSolverModel_cells h) rfl rfl (Nat.le_of_ble_eq_true rfl) (fun _ hx => by cases hx) (fun v u q => ?_) (fun n u q => q)
    obtain ⟨r, rfl, h⟩ := xqi_get q
    refine xJ.icmp_ge (tgt := 59) (o_VectorSolverModel_areEqual 8 rfl) (by decide) (fun z => ?_) (fun z => ?_)
    · replace h := h.1 z
      refine xJ.iload_n (o_VectorSolverModel_areEqual 35 rfl) rfl ?_
      exact xJ.zreturn (o_VectorSolverModel_areEqual 36 rfl) rfl h.1 h.2
    · replace h := h.2 z
      refine xJ.iload_n (o_VectorSolverModel_areEqual 9 rfl) rfl ?_
      refine xJ.if_eq (tgt := 59) (o_VectorSolverModel_areEqual 10 rfl) (by decide) (fun z => ?_) (fun z => ?_)
      · replace h := h.1 z
        refine xJ.iload_n (o_VectorSolverModel_areEqual 35 rfl) rfl ?_
        exact xJ.zreturn (o_VectorSolverModel_areEqual 36 rfl) rfl h.1 h.2
      · replace h := h.2 z
        refine xJ.aload_n (o_VectorSolverModel_areEqual 11 rfl) rfl ?_
        refine xJ.getfield (o_VectorSolverModel_areEqual 12 rfl) f_VectorSolverModel_116 rfl rfl ?_
        refine xJ.bipush (v := 64) (o_VectorSolverModel_areEqual 13 rfl) (by decide) ?_
        refine xJ.iload_n (o_VectorSolverModel_areEqual 14 rfl) rfl ?_
        refine xJ.imul (o_VectorSolverModel_areEqual 15 rfl) ?_
        refine xJ.iload (o_VectorSolverModel_areEqual 16 rfl) rfl ?_
        refine xJ.iadd (o_VectorSolverModel_areEqual 17 rfl) ?_
        refine xJ.laload (o_VectorSolverModel_areEqual 18 rfl) rfl h.1 ?_
        replace h := h.2
        refine xJ.aload_n (o_VectorSolverModel_areEqual 19 rfl) rfl ?_
        refine xJ.getfield (o_VectorSolverModel_areEqual 20 rfl) f_VectorSolverModel_116 rfl rfl ?_
        refine xJ.bipush (v := 64) (o_VectorSolverModel_areEqual 21 rfl) (by decide) ?_
        refine xJ.iload_n (o_VectorSolverModel_areEqual 22 rfl) rfl ?_
        refine xJ.imul (o_VectorSolverModel_areEqual 23 rfl) ?_
        refine xJ.iload (o_VectorSolverModel_areEqual 24 rfl) rfl ?_
        refine xJ.iadd (o_VectorSolverModel_areEqual 25 rfl) ?_
        refine xJ.laload (o_VectorSolverModel_areEqual 26 rfl) rfl h.1 ?_
        replace h := h.2
        refine xJ.lcmp (o_VectorSolverModel_areEqual 27 rfl) ?_
        refine xJ.if_ne (tgt := 51) (o_VectorSolverModel_areEqual 28 rfl) (by decide) (fun z => ?_) (fun z => ?_)
        · replace h := h.1 z
          refine xJ.iconst (v := 0) (o_VectorSolverModel_areEqual 31 rfl) (by decide) ?_
          refine xJ.istore_n (o_VectorSolverModel_areEqual 32 rfl) (by decide) ?_
          refine xJ.iincC (w := 1) (o_VectorSolverModel_areEqual 33 rfl) rfl (by decide) (by decide) ?_
          replace h := h _ rfl
          refine xJ.goto (tgt := 5) (o_VectorSolverModel_areEqual 34 rfl) (by decide) ?_
          exact xJ.lvs (by exact ⟨rfl, rfl, rfl, rfl, rfl, trivial⟩) (ih _ _ _ _ _ h)
        · replace h := h.2 z
          refine xJ.iconst (v := 1) (o_VectorSolverModel_areEqual 29 rfl) (by decide) ?_
          refine xJ.goto (tgt := 52) (o_VectorSolverModel_areEqual 30 rfl) (by decide) ?_
          refine xJ.istore_n (o_VectorSolverModel_areEqual 32 rfl) (by decide) ?_
          refine xJ.iincC (w := 1) (o_VectorSolverModel_areEqual 33 rfl) rfl (by decide) (by decide) ?_
          replace h := h _ rfl
          refine xJ.goto (tgt := 5) (o_VectorSolverModel_areEqual 34 rfl) (by decide) ?_
          exact xJ.lvs (by exact ⟨rfl, rfl, rfl, rfl, rfl, trivial⟩) (ih _ _ _ _ _ h)
set_option maxRecDepth 20000 in
theorem s_VectorSolverModel_areEqual {γ : xG1} {d : Nat} {Q : xO → xS → Prop} {σ : xS} {a1 : Int32} {a2 : Int32} (h : wp_VectorSolverModel_areEqual Q σ a1 a2) : xM (SHP, γ) Y_VectorSolverModel_areEqual (d + 1) [.ref 50, .int a1, .int a2] σ Q := by
  refine xM.of (by decide) (Nat.le_of_ble_eq_true rfl) ?_
  refine xJ.iconst (v := 1) (o_VectorSolverModel_areEqual 0 rfl) (by decide) ?_
  refine xJ.istore_n (o_VectorSolverModel_areEqual 1 rfl) (by decide) ?_
  refine xJ.iconst (v := 0) (o_VectorSolverModel_areEqual 2 rfl) (by decide) ?_
  refine xJ.istore (o_VectorSolverModel_areEqual 3 rfl) (by decide) ?_
  obtain ⟨m, h⟩ := h
  exact xJ.lvs (by exact ⟨rfl, rfl, rfl, rfl, rfl, trivial⟩) (sw_VectorSolverModel_areEqual_5 m _ _ _ _ _ h)
def w_VectorSolverModel_copy_2 (Q : xO → xS → Prop) : Nat → Int32 → Int32 → Int32 → xS → Prop
  | 0 => fun _ _ _ _ => False
  | n + 1 => fun a1 a2 a3 σ =>
    wp_VectorSolverModel_cells (xqi (fun r2 u1 => ((r2 ≤ a3 → Q (.inl none) u1) ∧ (¬ r2 ≤ a3 → (vp_in ((64 * a2) + a3) 128000 ∧ (vp_in ((64 * a1) + a3) 128000 ∧ (∀ s3 : xS, s3 = xpl u1 81 ((64 * a1) + a3).toNatClampNeg (xl u1 81 ((64 * a2) + a3).toNatClampNeg) → (∀ x4 : Int32, x4 = a3 + 1 → w_VectorSolverModel_copy_2 Q n a1 a2 x4 s3))))))) (fun n u => Q (.inr n) u)) σ a1
def wp_VectorSolverModel_copy (Q : xO → xS → Prop) (σ : xS) (a1 : Int32) (a2 : Int32) : Prop :=
  ∃ m, w_VectorSolverModel_copy_2 Q m a1 a2 0 σ
set_option maxRecDepth 20000 in
theorem sw_VectorSolverModel_copy_2 {γ : xG1} {d b0 : Nat} {Q : xO → xS → Prop} : ∀ (n : Nat) (a1 : Int32) (a2 : Int32) (a3 : Int32) (σ : xS), w_VectorSolverModel_copy_2 Q n a1 a2 a3 σ → xJ (SHP, γ) Y_VectorSolverModel_copy (d + 1) b0 2 [(0, .ref 50), (1, .int a1), (2, .int a2), (3, .int a3)] [] σ Q := by
  intro n
  induction n with
  | zero => intro a1 a2 a3 σ h; exact h.elim
  | succ n ih =>
    intro a1 a2 a3 σ h
    refine xJ.iload_n (o_VectorSolverModel_copy 2 rfl) rfl ?_
    refine xJ.aload_n (o_VectorSolverModel_copy 3 rfl) rfl ?_
    refine xJ.iload_n (o_VectorSolverModel_copy 4 rfl) rfl ?_
    refine xJ.callV (Y' := Y_VectorSolverModel_cells) (o_VectorSolverModel_copy 5 rfl) m_VectorSolverModel_361 y_VectorSolverModel_cells im_VectorSolverModel_cells se_VectorSolverModel_cells rfl rfl (s_VectorSolverModel_cells h) rfl rfl (Nat.le_of_ble_eq_true rfl) (fun _ hx => by cases hx) (fun v u q => ?_) (fun n u q => q)
    obtain ⟨r, rfl, h⟩ := xqi_get q
    refine xJ.icmp_ge (tgt := 39) (o_VectorSolverModel_copy 6 rfl) (by decide) (fun z => ?_) (fun z => ?_)
    · replace h := h.1 z
      exact xJ.return_ (o_VectorSolverModel_copy 25 rfl) rfl h
    · replace h := h.2 z
      refine xJ.aload_n (o_VectorSolverModel_copy 7 rfl) rfl ?_
      refine xJ.getfield (o_VectorSolverModel_copy 8 rfl) f_VectorSolverModel_116 rfl rfl ?_
      refine xJ.bipush (v := 64) (o_VectorSolverModel_copy 9 rfl) (by decide) ?_
      refine xJ.iload_n (o_VectorSolverModel_copy 10 rfl) rfl ?_
      refine xJ.imul (o_VectorSolverModel_copy 11 rfl) ?_
      refine xJ.iload_n (o_VectorSolverModel_copy 12 rfl) rfl ?_
      refine xJ.iadd (o_VectorSolverModel_copy 13 rfl) ?_
      refine xJ.aload_n (o_VectorSolverModel_copy 14 rfl) rfl ?_
      refine xJ.getfield (o_VectorSolverModel_copy 15 rfl) f_VectorSolverModel_116 rfl rfl ?_
      refine xJ.bipush (v := 64) (o_VectorSolverModel_copy 16 rfl) (by decide) ?_
      refine xJ.iload_n (o_VectorSolverModel_copy 17 rfl) rfl ?_
      refine xJ.imul (o_VectorSolverModel_copy 18 rfl) ?_
      refine xJ.iload_n (o_VectorSolverModel_copy 19 rfl) rfl ?_
      refine xJ.iadd (o_VectorSolverModel_copy 20 rfl) ?_
      refine xJ.laload (o_VectorSolverModel_copy 21 rfl) rfl h.1 ?_
      replace h := h.2
      refine xJ.lastore (o_VectorSolverModel_copy 22 rfl) rfl h.1 ?_
      replace h := h.2
      replace h := h _ rfl
      refine xJ.iincC (w := 1) (o_VectorSolverModel_copy 23 rfl) rfl (by decide) (by decide) ?_
      replace h := h _ rfl
      refine xJ.goto (tgt := 2) (o_VectorSolverModel_copy 24 rfl) (by decide) ?_
      exact xJ.lvs (by exact ⟨rfl, rfl, rfl, rfl, trivial⟩) (ih _ _ _ _ h)
set_option maxRecDepth 20000 in
theorem s_VectorSolverModel_copy {γ : xG1} {d : Nat} {Q : xO → xS → Prop} {σ : xS} {a1 : Int32} {a2 : Int32} (h : wp_VectorSolverModel_copy Q σ a1 a2) : xM (SHP, γ) Y_VectorSolverModel_copy (d + 1) [.ref 50, .int a1, .int a2] σ Q := by
  refine xM.of (by decide) (Nat.le_of_ble_eq_true rfl) ?_
  refine xJ.iconst (v := 0) (o_VectorSolverModel_copy 0 rfl) (by decide) ?_
  refine xJ.istore_n (o_VectorSolverModel_copy 1 rfl) (by decide) ?_
  obtain ⟨m, h⟩ := h
  exact xJ.lvs (by exact ⟨rfl, rfl, rfl, rfl, trivial⟩) (sw_VectorSolverModel_copy_2 m _ _ _ _ h)
def w_VectorSolverModel_alike_23 (Q : xO → xS → Prop) (K5 : Int32 → Int32 → Int32 → Int32 → xS → Prop) : Nat → Int32 → Int32 → Int32 → Int32 → Int32 → xS → Prop
  | 0 => fun _ _ _ _ _ _ => False
  | n + 1 => fun a1 a2 a3 a4 a5 σ =>
    ((a4 ≤ a5 → (∀ x1 : Int32, x1 = a4 + 1 → K5 a1 a2 a3 x1 σ)) ∧ (¬ a4 ≤ a5 → ((a3 = 0 → (∀ x2 : Int32, x2 = a4 + 1 → K5 a1 a2 a3 x2 σ)) ∧ (¬ a3 = 0 → wp_VectorSolverModel_of (xqi (fun r4 u3 => wp_VectorSolverModel_of (xqi (fun r6 u5 => wp_VectorSolverModel_areEqual (xqi (fun r8 u7 => ((¬ r8 = a2 → (∀ x9 : Int32, x9 = a5 + 1 → w_VectorSolverModel_alike_23 Q K5 n a1 a2 0 a4 x9 u7)) ∧ (r8 = a2 → (∀ x10 : Int32, x10 = a5 + 1 → w_VectorSolverModel_alike_23 Q K5 n a1 a2 1 a4 x10 u7)))) (fun n u => Q (.inr n) u)) u5 r4 r6) (fun n u => Q (.inr n) u)) u3 a1 a5) (fun n u => Q (.inr n) u)) σ a1 a4))))
def w_VectorSolverModel_alike_5 (Q : xO → xS → Prop) : Nat → Int32 → Int32 → Int32 → Int32 → xS → Prop
  | 0 => fun _ _ _ _ _ => False
  | n + 1 => fun a1 a2 a3 a4 σ =>
    (vp_in a1 2000 ∧ (((xi σ 60 a1.toNatClampNeg) ≤ a4 → ((a3 = 0 ∨ a3 = 1) ∧ Q (.inl (some (.int a3))) σ)) ∧ (¬ (xi σ 60 a1.toNatClampNeg) ≤ a4 → ((a3 = 0 → ((a3 = 0 ∨ a3 = 1) ∧ Q (.inl (some (.int a3))) σ)) ∧ (¬ a3 = 0 → ∃ m, w_VectorSolverModel_alike_23 Q (w_VectorSolverModel_alike_5 Q n) m a1 a2 a3 a4 0 σ)))))
def wp_VectorSolverModel_alike (Q : xO → xS → Prop) (σ : xS) (a1 : Int32) (a2 : Int32) : Prop :=
  ∃ m, w_VectorSolverModel_alike_5 Q m a1 a2 1 0 σ
set_option maxRecDepth 20000 in
theorem sw_VectorSolverModel_alike_23 {γ : xG1} {d b0 : Nat} {Q : xO → xS → Prop} {K5 : Int32 → Int32 → Int32 → Int32 → xS → Prop} (hK5 : ∀ a1 a2 a3 a4 σ, K5 a1 a2 a3 a4 σ → xJ (SHP, γ) Y_VectorSolverModel_alike (d + 2) b0 5 [(0, .ref 50), (1, .int a1), (2, .int a2), (3, .int a3), (4, .int a4)] [] σ Q) : ∀ (n : Nat) (a1 : Int32) (a2 : Int32) (a3 : Int32) (a4 : Int32) (a5 : Int32) (σ : xS), w_VectorSolverModel_alike_23 Q K5 n a1 a2 a3 a4 a5 σ → xJ (SHP, γ) Y_VectorSolverModel_alike (d + 2) b0 23 [(0, .ref 50), (1, .int a1), (2, .int a2), (3, .int a3), (4, .int a4), (5, .int a5)] [] σ Q := by
  intro n
  induction n with
  | zero => intro a1 a2 a3 a4 a5 σ h; exact h.elim
  | succ n ih =>
    intro a1 a2 a3 a4 a5 σ h
    refine xJ.iload (o_VectorSolverModel_alike 14 rfl) rfl ?_
    refine xJ.iload (o_VectorSolverModel_alike 15 rfl) rfl ?_
    refine xJ.icmp_ge (tgt := 68) (o_VectorSolverModel_alike 16 rfl) (by decide) (fun z => ?_) (fun z => ?_)
    · replace h := h.1 z
      refine xJ.iincC (w := 1) (o_VectorSolverModel_alike 37 rfl) rfl (by decide) (by decide) ?_
      replace h := h _ rfl
      refine xJ.goto (tgt := 5) (o_VectorSolverModel_alike 38 rfl) (by decide) ?_
      exact xJ.lvs (by exact ⟨rfl, rfl, rfl, rfl, rfl, trivial⟩) (hK5 _ _ _ _ _ h)
    · replace h := h.2 z
      refine xJ.iload_n (o_VectorSolverModel_alike 17 rfl) rfl ?_
      refine xJ.if_eq (tgt := 68) (o_VectorSolverModel_alike 18 rfl) (by decide) (fun z => ?_) (fun z => ?_)
      · replace h := h.1 z
        refine xJ.iincC (w := 1) (o_VectorSolverModel_alike 37 rfl) rfl (by decide) (by decide) ?_
        replace h := h _ rfl
        refine xJ.goto (tgt := 5) (o_VectorSolverModel_alike 38 rfl) (by decide) ?_
        exact xJ.lvs (by exact ⟨rfl, rfl, rfl, rfl, rfl, trivial⟩) (hK5 _ _ _ _ _ h)
      · replace h := h.2 z
        refine xJ.aload_n (o_VectorSolverModel_alike 19 rfl) rfl ?_
        refine xJ.aload_n (o_VectorSolverModel_alike 20 rfl) rfl ?_
        refine xJ.iload_n (o_VectorSolverModel_alike 21 rfl) rfl ?_
        refine xJ.iload (o_VectorSolverModel_alike 22 rfl) rfl ?_
        refine xJ.callV (Y' := Y_VectorSolverModel_of) (o_VectorSolverModel_alike 23 rfl) m_VectorSolverModel_358 y_VectorSolverModel_of im_VectorSolverModel_of se_VectorSolverModel_of rfl rfl (s_VectorSolverModel_of h) rfl rfl (Nat.le_of_ble_eq_true rfl) (fun _ hx => by cases hx) (fun v u q => ?_) (fun n u q => q)
        obtain ⟨r, rfl, h⟩ := xqi_get q
        refine xJ.aload_n (o_VectorSolverModel_alike 24 rfl) rfl ?_
        refine xJ.iload_n (o_VectorSolverModel_alike 25 rfl) rfl ?_
        refine xJ.iload (o_VectorSolverModel_alike 26 rfl) rfl ?_
        refine xJ.callV (Y' := Y_VectorSolverModel_of) (o_VectorSolverModel_alike 27 rfl) m_VectorSolverModel_358 y_VectorSolverModel_of im_VectorSolverModel_of se_VectorSolverModel_of rfl rfl (s_VectorSolverModel_of h) rfl rfl (Nat.le_of_ble_eq_true rfl) (fun _ hx => by cases hx) (fun v u q => ?_) (fun n u q => q)
        obtain ⟨r, rfl, h⟩ := xqi_get q
        refine xJ.callV (Y' := Y_VectorSolverModel_areEqual) (o_VectorSolverModel_alike 28 rfl) m_VectorSolverModel_383 y_VectorSolverModel_areEqual im_VectorSolverModel_areEqual se_VectorSolverModel_areEqual rfl rfl (s_VectorSolverModel_areEqual h) rfl rfl (Nat.le_of_ble_eq_true rfl) (fun _ hx => by cases hx) (fun v u q => ?_) (fun n u q => q)
        obtain ⟨r, rfl, h⟩ := xqi_get q
        refine xJ.iload_n (o_VectorSolverModel_alike 29 rfl) rfl ?_
        refine xJ.icmp_ne (tgt := 60) (o_VectorSolverModel_alike 30 rfl) (by decide) (fun z => ?_) (fun z => ?_)
        · replace h := h.1 z
          refine xJ.iconst (v := 0) (o_VectorSolverModel_alike 33 rfl) (by decide) ?_
          refine xJ.istore_n (o_VectorSolverModel_alike 34 rfl) (by decide) ?_
          refine xJ.iincC (w := 1) (o_VectorSolverModel_alike 35 rfl) rfl (by decide) (by decide) ?_
          replace h := h _ rfl
          refine xJ.goto (tgt := 23) (o_VectorSolverModel_alike 36 rfl) (by decide) ?_
          exact xJ.lvs (by exact ⟨rfl, rfl, rfl, rfl, rfl, rfl, trivial⟩) (ih _ _ _ _ _ _ h)
        · replace h := h.2 z
          refine xJ.iconst (v := 1) (o_VectorSolverModel_alike 31 rfl) (by decide) ?_
          refine xJ.goto (tgt := 61) (o_VectorSolverModel_alike 32 rfl) (by decide) ?_
          refine xJ.istore_n (o_VectorSolverModel_alike 34 rfl) (by decide) ?_
          refine xJ.iincC (w := 1) (o_VectorSolverModel_alike 35 rfl) rfl (by decide) (by decide) ?_
          replace h := h _ rfl
          refine xJ.goto (tgt := 23) (o_VectorSolverModel_alike 36 rfl) (by decide) ?_
          exact xJ.lvs (by exact ⟨rfl, rfl, rfl, rfl, rfl, rfl, trivial⟩) (ih _ _ _ _ _ _ h)
set_option maxRecDepth 20000 in
theorem sw_VectorSolverModel_alike_5 {γ : xG1} {d b0 : Nat} {Q : xO → xS → Prop} : ∀ (n : Nat) (a1 : Int32) (a2 : Int32) (a3 : Int32) (a4 : Int32) (σ : xS), w_VectorSolverModel_alike_5 Q n a1 a2 a3 a4 σ → xJ (SHP, γ) Y_VectorSolverModel_alike (d + 2) b0 5 [(0, .ref 50), (1, .int a1), (2, .int a2), (3, .int a3), (4, .int a4)] [] σ Q := by
  intro n
  induction n with
  | zero => intro a1 a2 a3 a4 σ h; exact h.elim
  | succ n ih =>
    intro a1 a2 a3 a4 σ h
    refine xJ.iload (o_VectorSolverModel_alike 4 rfl) rfl ?_
    refine xJ.aload_n (o_VectorSolverModel_alike 5 rfl) rfl ?_
    refine xJ.getfield (o_VectorSolverModel_alike 6 rfl) f_VectorSolverModel_50 rfl rfl ?_
    refine xJ.iload_n (o_VectorSolverModel_alike 7 rfl) rfl ?_
    refine xJ.iaload (o_VectorSolverModel_alike 8 rfl) rfl h.1 ?_
    replace h := h.2
    refine xJ.icmp_ge (tgt := 74) (o_VectorSolverModel_alike 9 rfl) (by decide) (fun z => ?_) (fun z => ?_)
    · replace h := h.1 z
      refine xJ.iload_n (o_VectorSolverModel_alike 39 rfl) rfl ?_
      exact xJ.zreturn (o_VectorSolverModel_alike 40 rfl) rfl h.1 h.2
    · replace h := h.2 z
      refine xJ.iload_n (o_VectorSolverModel_alike 10 rfl) rfl ?_
      refine xJ.if_eq (tgt := 74) (o_VectorSolverModel_alike 11 rfl) (by decide) (fun z => ?_) (fun z => ?_)
      · replace h := h.1 z
        refine xJ.iload_n (o_VectorSolverModel_alike 39 rfl) rfl ?_
        exact xJ.zreturn (o_VectorSolverModel_alike 40 rfl) rfl h.1 h.2
      · replace h := h.2 z
        refine xJ.iconst (v := 0) (o_VectorSolverModel_alike 12 rfl) (by decide) ?_
        refine xJ.istore (o_VectorSolverModel_alike 13 rfl) (by decide) ?_
        obtain ⟨m, h⟩ := h
        exact xJ.lvs (by exact ⟨rfl, rfl, rfl, rfl, rfl, rfl, trivial⟩) (sw_VectorSolverModel_alike_23 ih m _ _ _ _ _ _ h)
set_option maxRecDepth 20000 in
theorem s_VectorSolverModel_alike {γ : xG1} {d : Nat} {Q : xO → xS → Prop} {σ : xS} {a1 : Int32} {a2 : Int32} (h : wp_VectorSolverModel_alike Q σ a1 a2) : xM (SHP, γ) Y_VectorSolverModel_alike (d + 2) [.ref 50, .int a1, .int a2] σ Q := by
  refine xM.of (by decide) (Nat.le_of_ble_eq_true rfl) ?_
  refine xJ.iconst (v := 1) (o_VectorSolverModel_alike 0 rfl) (by decide) ?_
  refine xJ.istore_n (o_VectorSolverModel_alike 1 rfl) (by decide) ?_
  refine xJ.iconst (v := 0) (o_VectorSolverModel_alike 2 rfl) (by decide) ?_
  refine xJ.istore (o_VectorSolverModel_alike 3 rfl) (by decide) ?_
  obtain ⟨m, h⟩ := h
  exact xJ.lvs (by exact ⟨rfl, rfl, rfl, rfl, rfl, trivial⟩) (sw_VectorSolverModel_alike_5 m _ _ _ _ _ h)
def wp_VectorSolverModel_signed (Q : xO → xS → Prop) (σ : xS) (a0 : Int64) (a2 : Int32) : Prop :=
  Q (.inl (some (.long (jlshr (jlshl a0 (64 - a2)) (64 - a2))))) σ
set_option maxRecDepth 20000 in
theorem s_VectorSolverModel_signed {γ : xG1} {d : Nat} {Q : xO → xS → Prop} {σ : xS} {a0 : Int64} {a2 : Int32} (h : wp_VectorSolverModel_signed Q σ a0 a2) : xM (SHP, γ) Y_VectorSolverModel_signed (d + 0) [.long a0, .int a2] σ Q := by
  refine xM.of (by decide) (Nat.le_of_ble_eq_true rfl) ?_
  refine xJ.lload_n (o_VectorSolverModel_signed 0 rfl) rfl ?_
  refine xJ.bipush (v := 64) (o_VectorSolverModel_signed 1 rfl) (by decide) ?_
  refine xJ.iload_n (o_VectorSolverModel_signed 2 rfl) rfl ?_
  refine xJ.isub (o_VectorSolverModel_signed 3 rfl) ?_
  refine xJ.lshl (o_VectorSolverModel_signed 4 rfl) rfl ?_
  refine xJ.bipush (v := 64) (o_VectorSolverModel_signed 5 rfl) (by decide) ?_
  refine xJ.iload_n (o_VectorSolverModel_signed 6 rfl) rfl ?_
  refine xJ.isub (o_VectorSolverModel_signed 7 rfl) ?_
  refine xJ.lshr (o_VectorSolverModel_signed 8 rfl) rfl ?_
  exact xJ.lreturn (o_VectorSolverModel_signed 9 rfl) rfl h
def wp_VectorSolverModel_isBelow (Q : xO → xS → Prop) (σ : xS) (a0 : Int64) (a2 : Int64) : Prop :=
  ((0 ≤ (lg_cmp (a0 ^^^ (-9223372036854775808)) (a2 ^^^ (-9223372036854775808))) → Q (.inl (some (.int 0))) σ) ∧ (¬ 0 ≤ (lg_cmp (a0 ^^^ (-9223372036854775808)) (a2 ^^^ (-9223372036854775808))) → Q (.inl (some (.int 1))) σ))
set_option maxRecDepth 20000 in
theorem s_VectorSolverModel_isBelow {γ : xG1} {d : Nat} {Q : xO → xS → Prop} {σ : xS} {a0 : Int64} {a2 : Int64} (h : wp_VectorSolverModel_isBelow Q σ a0 a2) : xM (SHP, γ) Y_VectorSolverModel_isBelow (d + 0) [.long a0, .long a2] σ Q := by
  refine xM.of (by decide) (Nat.le_of_ble_eq_true rfl) ?_
  refine xJ.lload_n (o_VectorSolverModel_isBelow 0 rfl) rfl ?_
  refine xJ.ldc2 (v := (-9223372036854775808)) (o_VectorSolverModel_isBelow 1 rfl) k_VectorSolverModel_337 ?_
  refine xJ.lxor (o_VectorSolverModel_isBelow 2 rfl) ?_
  refine xJ.lload_n (o_VectorSolverModel_isBelow 3 rfl) rfl ?_
  refine xJ.ldc2 (v := (-9223372036854775808)) (o_VectorSolverModel_isBelow 4 rfl) k_VectorSolverModel_337 ?_
  refine xJ.lxor (o_VectorSolverModel_isBelow 5 rfl) ?_
  refine xJ.lcmp (o_VectorSolverModel_isBelow 6 rfl) ?_
  refine xJ.if_ge (tgt := 18) (o_VectorSolverModel_isBelow 7 rfl) (by decide) (fun z => ?_) (fun z => ?_)
  · replace h := h.1 z
    refine xJ.iconst (v := 0) (o_VectorSolverModel_isBelow 10 rfl) (by decide) ?_
    exact xJ.zreturn (o_VectorSolverModel_isBelow 11 rfl) rfl (Or.inl rfl) h
  · replace h := h.2 z
    refine xJ.iconst (v := 1) (o_VectorSolverModel_isBelow 8 rfl) (by decide) ?_
    refine xJ.goto (tgt := 19) (o_VectorSolverModel_isBelow 9 rfl) (by decide) ?_
    exact xJ.zreturn (o_VectorSolverModel_isBelow 11 rfl) rfl (Or.inr rfl) h
theorem sc_VectorSolverModel_compares_1 {x : Int32} {P : Nat → Prop} (k0 : x = 25 → P 44) (k1 : x = 26 → P 50) (k2 : x = 27 → P 64) (k3 : x = 28 → P 70) (k4 : x = 29 → P 84) (k5 : x = 30 → P 106) (k6 : x = 31 → P 128) (kd : ¬ x = 25 ∧ ¬ x = 26 ∧ ¬ x = 27 ∧ ¬ x = 28 ∧ ¬ x = 29 ∧ ¬ x = 30 ∧ ¬ x = 31 → P 150) : ∃ t : Nat, xdst 1 149 25 31 #[43, 49, 63, 69, 83, 105, 127] x = (t : Int) ∧ P t := by
  by_cases h0_0 : x = 25
  · subst h0_0; exact ⟨44, by decide, k0 (rfl)⟩
  by_cases h1_0 : x = 26
  · subst h1_0; exact ⟨50, by decide, k1 (rfl)⟩
  by_cases h2_0 : x = 27
  · subst h2_0; exact ⟨64, by decide, k2 (rfl)⟩
  by_cases h3_0 : x = 28
  · subst h3_0; exact ⟨70, by decide, k3 (rfl)⟩
  by_cases h4_0 : x = 29
  · subst h4_0; exact ⟨84, by decide, k4 (rfl)⟩
  by_cases h5_0 : x = 30
  · subst h5_0; exact ⟨106, by decide, k5 (rfl)⟩
  by_cases h6_0 : x = 31
  · subst h6_0; exact ⟨128, by decide, k6 (rfl)⟩
  have nh0_0 := lv_neT h0_0 (show (25 : Int32).toInt = 25 by decide)
  have nh1_0 := lv_neT h1_0 (show (26 : Int32).toInt = 26 by decide)
  have nh2_0 := lv_neT h2_0 (show (27 : Int32).toInt = 27 by decide)
  have nh3_0 := lv_neT h3_0 (show (28 : Int32).toInt = 28 by decide)
  have nh4_0 := lv_neT h4_0 (show (29 : Int32).toInt = 29 by decide)
  have nh5_0 := lv_neT h5_0 (show (30 : Int32).toInt = 30 by decide)
  have nh6_0 := lv_neT h6_0 (show (31 : Int32).toInt = 31 by decide)
  refine ⟨150, ?_, kd ⟨h0_0, h1_0, h2_0, h3_0, h4_0, h5_0, h6_0⟩⟩
  exact xdst_out (by omega) rfl
def wp_VectorSolverModel_compares (Q : xO → xS → Prop) (σ : xS) (a0 : Int32) (a1 : Int64) (a3 : Int64) (a5 : Int32) : Prop :=
  ((a0 = 25 → wp_VectorSolverModel_isBelow (xqi (fun r2 u1 => ((r2 = 0 ∨ r2 = 1) ∧ Q (.inl (some (.int r2))) u1)) (fun n u => Q (.inr n) u)) σ a1 a3) ∧ (a0 = 26 → wp_VectorSolverModel_isBelow (xqi (fun r4 u3 => ((¬ r4 = 0 → Q (.inl (some (.int 0))) u3) ∧ (r4 = 0 → Q (.inl (some (.int 1))) u3))) (fun n u => Q (.inr n) u)) σ a3 a1) ∧ (a0 = 27 → wp_VectorSolverModel_isBelow (xqi (fun r6 u5 => ((r6 = 0 ∨ r6 = 1) ∧ Q (.inl (some (.int r6))) u5)) (fun n u => Q (.inr n) u)) σ a3 a1) ∧ (a0 = 28 → wp_VectorSolverModel_isBelow (xqi (fun r8 u7 => ((¬ r8 = 0 → Q (.inl (some (.int 0))) u7) ∧ (r8 = 0 → Q (.inl (some (.int 1))) u7))) (fun n u => Q (.inr n) u)) σ a1 a3) ∧ (a0 = 29 → wp_VectorSolverModel_signed (xql (fun r10 u9 => wp_VectorSolverModel_signed (xql (fun r12 u11 => ((0 ≤ (lg_cmp r10 r12) → Q (.inl (some (.int 0))) u11) ∧ (¬ 0 ≤ (lg_cmp r10 r12) → Q (.inl (some (.int 1))) u11))) (fun n u => Q (.inr n) u)) u9 a3 a5) (fun n u => Q (.inr n) u)) σ a1 a5) ∧ (a0 = 30 → wp_VectorSolverModel_signed (xql (fun r14 u13 => wp_VectorSolverModel_signed (xql (fun r16 u15 => ((0 < (lg_cmp r14 r16) → Q (.inl (some (.int 0))) u15) ∧ (¬ 0 < (lg_cmp r14 r16) → Q (.inl (some (.int 1))) u15))) (fun n u => Q (.inr n) u)) u13 a3 a5) (fun n u => Q (.inr n) u)) σ a1 a5) ∧ (a0 = 31 → wp_VectorSolverModel_signed (xql (fun r18 u17 => wp_VectorSolverModel_signed (xql (fun r20 u19 => (((lg_cmp r18 r20) ≤ 0 → Q (.inl (some (.int 0))) u19) ∧ (¬ (lg_cmp r18 r20) ≤ 0 → Q (.inl (some (.int 1))) u19))) (fun n u => Q (.inr n) u)) u17 a3 a5) (fun n u => Q (.inr n) u)) σ a1 a5) ∧ (¬ a0 = 25 ∧ ¬ a0 = 26 ∧ ¬ a0 = 27 ∧ ¬ a0 = 28 ∧ ¬ a0 = 29 ∧ ¬ a0 = 30 ∧ ¬ a0 = 31 → wp_VectorSolverModel_signed (xql (fun r22 u21 => wp_VectorSolverModel_signed (xql (fun r24 u23 => (((lg_cmp r22 r24) < 0 → Q (.inl (some (.int 0))) u23) ∧ (¬ (lg_cmp r22 r24) < 0 → Q (.inl (some (.int 1))) u23))) (fun n u => Q (.inr n) u)) u21 a3 a5) (fun n u => Q (.inr n) u)) σ a1 a5))
set_option maxRecDepth 20000 in
theorem s_VectorSolverModel_compares {γ : xG1} {d : Nat} {Q : xO → xS → Prop} {σ : xS} {a0 : Int32} {a1 : Int64} {a3 : Int64} {a5 : Int32} (h : wp_VectorSolverModel_compares Q σ a0 a1 a3 a5) : xM (SHP, γ) Y_VectorSolverModel_compares (d + 1) [.int a0, .long a1, .long a3, .int a5] σ Q := by
  refine xM.of (by decide) (Nat.le_of_ble_eq_true rfl) ?_
  refine xJ.iload_n (o_VectorSolverModel_compares 0 rfl) rfl ?_
  refine xJ.tsw (o_VectorSolverModel_compares 1 rfl) (by decide) (sc_VectorSolverModel_compares_1 (fun z => ?_) (fun z => ?_) (fun z => ?_) (fun z => ?_) (fun z => ?_) (fun z => ?_) (fun z => ?_) (fun z => ?_))
  · replace h := h.1 z
    refine xJ.lload_n (o_VectorSolverModel_compares 2 rfl) rfl ?_
    refine xJ.lload_n (o_VectorSolverModel_compares 3 rfl) rfl ?_
    refine xJ.callS (Y' := Y_VectorSolverModel_isBelow) (o_VectorSolverModel_compares 4 rfl) m_VectorSolverModel_339 y_VectorSolverModel_isBelow st_VectorSolverModel_isBelow (s_VectorSolverModel_isBelow h) rfl rfl (Nat.le_of_ble_eq_true rfl) (fun _ hx => by cases hx) (fun v u q => ?_) (fun n u q => q)
    obtain ⟨r, rfl, h⟩ := xqi_get q
    exact xJ.zreturn (o_VectorSolverModel_compares 5 rfl) rfl h.1 h.2
  · replace h := h.2.1 z
    refine xJ.lload_n (o_VectorSolverModel_compares 6 rfl) rfl ?_
    refine xJ.lload_n (o_VectorSolverModel_compares 7 rfl) rfl ?_
    refine xJ.callS (Y' := Y_VectorSolverModel_isBelow) (o_VectorSolverModel_compares 8 rfl) m_VectorSolverModel_339 y_VectorSolverModel_isBelow st_VectorSolverModel_isBelow (s_VectorSolverModel_isBelow h) rfl rfl (Nat.le_of_ble_eq_true rfl) (fun _ hx => by cases hx) (fun v u q => ?_) (fun n u q => q)
    obtain ⟨r, rfl, h⟩ := xqi_get q
    refine xJ.if_ne (tgt := 62) (o_VectorSolverModel_compares 9 rfl) (by decide) (fun z => ?_) (fun z => ?_)
    · replace h := h.1 z
      refine xJ.iconst (v := 0) (o_VectorSolverModel_compares 12 rfl) (by decide) ?_
      exact xJ.zreturn (o_VectorSolverModel_compares 13 rfl) rfl (Or.inl rfl) h
    · replace h := h.2 z
      refine xJ.iconst (v := 1) (o_VectorSolverModel_compares 10 rfl) (by decide) ?_
      refine xJ.goto (tgt := 63) (o_VectorSolverModel_compares 11 rfl) (by decide) ?_
      exact xJ.zreturn (o_VectorSolverModel_compares 13 rfl) rfl (Or.inr rfl) h
  · replace h := h.2.2.1 z
    refine xJ.lload_n (o_VectorSolverModel_compares 14 rfl) rfl ?_
    refine xJ.lload_n (o_VectorSolverModel_compares 15 rfl) rfl ?_
    refine xJ.callS (Y' := Y_VectorSolverModel_isBelow) (o_VectorSolverModel_compares 16 rfl) m_VectorSolverModel_339 y_VectorSolverModel_isBelow st_VectorSolverModel_isBelow (s_VectorSolverModel_isBelow h) rfl rfl (Nat.le_of_ble_eq_true rfl) (fun _ hx => by cases hx) (fun v u q => ?_) (fun n u q => q)
    obtain ⟨r, rfl, h⟩ := xqi_get q
    exact xJ.zreturn (o_VectorSolverModel_compares 17 rfl) rfl h.1 h.2
  · replace h := h.2.2.2.1 z
    refine xJ.lload_n (o_VectorSolverModel_compares 18 rfl) rfl ?_
    refine xJ.lload_n (o_VectorSolverModel_compares 19 rfl) rfl ?_
    refine xJ.callS (Y' := Y_VectorSolverModel_isBelow) (o_VectorSolverModel_compares 20 rfl) m_VectorSolverModel_339 y_VectorSolverModel_isBelow st_VectorSolverModel_isBelow (s_VectorSolverModel_isBelow h) rfl rfl (Nat.le_of_ble_eq_true rfl) (fun _ hx => by cases hx) (fun v u q => ?_) (fun n u q => q)
    obtain ⟨r, rfl, h⟩ := xqi_get q
    refine xJ.if_ne (tgt := 82) (o_VectorSolverModel_compares 21 rfl) (by decide) (fun z => ?_) (fun z => ?_)
    · replace h := h.1 z
      refine xJ.iconst (v := 0) (o_VectorSolverModel_compares 24 rfl) (by decide) ?_
      exact xJ.zreturn (o_VectorSolverModel_compares 25 rfl) rfl (Or.inl rfl) h
    · replace h := h.2 z
      refine xJ.iconst (v := 1) (o_VectorSolverModel_compares 22 rfl) (by decide) ?_
      refine xJ.goto (tgt := 83) (o_VectorSolverModel_compares 23 rfl) (by decide) ?_
      exact xJ.zreturn (o_VectorSolverModel_compares 25 rfl) rfl (Or.inr rfl) h
  · replace h := h.2.2.2.2.1 z
    refine xJ.lload_n (o_VectorSolverModel_compares 26 rfl) rfl ?_
    refine xJ.iload (o_VectorSolverModel_compares 27 rfl) rfl ?_
    refine xJ.callS (Y' := Y_VectorSolverModel_signed) (o_VectorSolverModel_compares 28 rfl) m_VectorSolverModel_347 y_VectorSolverModel_signed st_VectorSolverModel_signed (s_VectorSolverModel_signed h) rfl rfl (Nat.le_of_ble_eq_true rfl) (fun _ hx => by cases hx) (fun v u q => ?_) (fun n u q => q)
    obtain ⟨r, rfl, h⟩ := xql_get q
    refine xJ.lload_n (o_VectorSolverModel_compares 29 rfl) rfl ?_
    refine xJ.iload (o_VectorSolverModel_compares 30 rfl) rfl ?_
    refine xJ.callS (Y' := Y_VectorSolverModel_signed) (o_VectorSolverModel_compares 31 rfl) m_VectorSolverModel_347 y_VectorSolverModel_signed st_VectorSolverModel_signed (s_VectorSolverModel_signed h) rfl rfl (Nat.le_of_ble_eq_true rfl) (fun _ hx => by cases hx) (fun v u q => ?_) (fun n u q => q)
    obtain ⟨r, rfl, h⟩ := xql_get q
    refine xJ.lcmp (o_VectorSolverModel_compares 32 rfl) ?_
    refine xJ.if_ge (tgt := 104) (o_VectorSolverModel_compares 33 rfl) (by decide) (fun z => ?_) (fun z => ?_)
    · replace h := h.1 z
      refine xJ.iconst (v := 0) (o_VectorSolverModel_compares 36 rfl) (by decide) ?_
      exact xJ.zreturn (o_VectorSolverModel_compares 37 rfl) rfl (Or.inl rfl) h
    · replace h := h.2 z
      refine xJ.iconst (v := 1) (o_VectorSolverModel_compares 34 rfl) (by decide) ?_
      refine xJ.goto (tgt := 105) (o_VectorSolverModel_compares 35 rfl) (by decide) ?_
      exact xJ.zreturn (o_VectorSolverModel_compares 37 rfl) rfl (Or.inr rfl) h
  · replace h := h.2.2.2.2.2.1 z
    refine xJ.lload_n (o_VectorSolverModel_compares 38 rfl) rfl ?_
    refine xJ.iload (o_VectorSolverModel_compares 39 rfl) rfl ?_
    refine xJ.callS (Y' := Y_VectorSolverModel_signed) (o_VectorSolverModel_compares 40 rfl) m_VectorSolverModel_347 y_VectorSolverModel_signed st_VectorSolverModel_signed (s_VectorSolverModel_signed h) rfl rfl (Nat.le_of_ble_eq_true rfl) (fun _ hx => by cases hx) (fun v u q => ?_) (fun n u q => q)
    obtain ⟨r, rfl, h⟩ := xql_get q
    refine xJ.lload_n (o_VectorSolverModel_compares 41 rfl) rfl ?_
    refine xJ.iload (o_VectorSolverModel_compares 42 rfl) rfl ?_
    refine xJ.callS (Y' := Y_VectorSolverModel_signed) (o_VectorSolverModel_compares 43 rfl) m_VectorSolverModel_347 y_VectorSolverModel_signed st_VectorSolverModel_signed (s_VectorSolverModel_signed h) rfl rfl (Nat.le_of_ble_eq_true rfl) (fun _ hx => by cases hx) (fun v u q => ?_) (fun n u q => q)
    obtain ⟨r, rfl, h⟩ := xql_get q
    refine xJ.lcmp (o_VectorSolverModel_compares 44 rfl) ?_
    refine xJ.if_gt (tgt := 126) (o_VectorSolverModel_compares 45 rfl) (by decide) (fun z => ?_) (fun z => ?_)
    · replace h := h.1 z
      refine xJ.iconst (v := 0) (o_VectorSolverModel_compares 48 rfl) (by decide) ?_
      exact xJ.zreturn (o_VectorSolverModel_compares 49 rfl) rfl (Or.inl rfl) h
    · replace h := h.2 z
      refine xJ.iconst (v := 1) (o_VectorSolverModel_compares 46 rfl) (by decide) ?_
      refine xJ.goto (tgt := 127) (o_VectorSolverModel_compares 47 rfl) (by decide) ?_
      exact xJ.zreturn (o_VectorSolverModel_compares 49 rfl) rfl (Or.inr rfl) h
  · replace h := h.2.2.2.2.2.2.1 z
    refine xJ.lload_n (o_VectorSolverModel_compares 50 rfl) rfl ?_
    refine xJ.iload (o_VectorSolverModel_compares 51 rfl) rfl ?_
    refine xJ.callS (Y' := Y_VectorSolverModel_signed) (o_VectorSolverModel_compares 52 rfl) m_VectorSolverModel_347 y_VectorSolverModel_signed st_VectorSolverModel_signed (s_VectorSolverModel_signed h) rfl rfl (Nat.le_of_ble_eq_true rfl) (fun _ hx => by cases hx) (fun v u q => ?_) (fun n u q => q)
    obtain ⟨r, rfl, h⟩ := xql_get q
    refine xJ.lload_n (o_VectorSolverModel_compares 53 rfl) rfl ?_
    refine xJ.iload (o_VectorSolverModel_compares 54 rfl) rfl ?_
    refine xJ.callS (Y' := Y_VectorSolverModel_signed) (o_VectorSolverModel_compares 55 rfl) m_VectorSolverModel_347 y_VectorSolverModel_signed st_VectorSolverModel_signed (s_VectorSolverModel_signed h) rfl rfl (Nat.le_of_ble_eq_true rfl) (fun _ hx => by cases hx) (fun v u q => ?_) (fun n u q => q)
    obtain ⟨r, rfl, h⟩ := xql_get q
    refine xJ.lcmp (o_VectorSolverModel_compares 56 rfl) ?_
    refine xJ.if_le (tgt := 148) (o_VectorSolverModel_compares 57 rfl) (by decide) (fun z => ?_) (fun z => ?_)
    · replace h := h.1 z
      refine xJ.iconst (v := 0) (o_VectorSolverModel_compares 60 rfl) (by decide) ?_
      exact xJ.zreturn (o_VectorSolverModel_compares 61 rfl) rfl (Or.inl rfl) h
    · replace h := h.2 z
      refine xJ.iconst (v := 1) (o_VectorSolverModel_compares 58 rfl) (by decide) ?_
      refine xJ.goto (tgt := 149) (o_VectorSolverModel_compares 59 rfl) (by decide) ?_
      exact xJ.zreturn (o_VectorSolverModel_compares 61 rfl) rfl (Or.inr rfl) h
  · replace h := h.2.2.2.2.2.2.2 z
    refine xJ.lload_n (o_VectorSolverModel_compares 62 rfl) rfl ?_
    refine xJ.iload (o_VectorSolverModel_compares 63 rfl) rfl ?_
    refine xJ.callS (Y' := Y_VectorSolverModel_signed) (o_VectorSolverModel_compares 64 rfl) m_VectorSolverModel_347 y_VectorSolverModel_signed st_VectorSolverModel_signed (s_VectorSolverModel_signed h) rfl rfl (Nat.le_of_ble_eq_true rfl) (fun _ hx => by cases hx) (fun v u q => ?_) (fun n u q => q)
    obtain ⟨r, rfl, h⟩ := xql_get q
    refine xJ.lload_n (o_VectorSolverModel_compares 65 rfl) rfl ?_
    refine xJ.iload (o_VectorSolverModel_compares 66 rfl) rfl ?_
    refine xJ.callS (Y' := Y_VectorSolverModel_signed) (o_VectorSolverModel_compares 67 rfl) m_VectorSolverModel_347 y_VectorSolverModel_signed st_VectorSolverModel_signed (s_VectorSolverModel_signed h) rfl rfl (Nat.le_of_ble_eq_true rfl) (fun _ hx => by cases hx) (fun v u q => ?_) (fun n u q => q)
    obtain ⟨r, rfl, h⟩ := xql_get q
    refine xJ.lcmp (o_VectorSolverModel_compares 68 rfl) ?_
    refine xJ.if_lt (tgt := 170) (o_VectorSolverModel_compares 69 rfl) (by decide) (fun z => ?_) (fun z => ?_)
    · replace h := h.1 z
      refine xJ.iconst (v := 0) (o_VectorSolverModel_compares 72 rfl) (by decide) ?_
      exact xJ.zreturn (o_VectorSolverModel_compares 73 rfl) rfl (Or.inl rfl) h
    · replace h := h.2 z
      refine xJ.iconst (v := 1) (o_VectorSolverModel_compares 70 rfl) (by decide) ?_
      refine xJ.goto (tgt := 171) (o_VectorSolverModel_compares 71 rfl) (by decide) ?_
      exact xJ.zreturn (o_VectorSolverModel_compares 73 rfl) rfl (Or.inr rfl) h
def wp_VectorSolverModel_mask (Q : xO → xS → Prop) (σ : xS) (a0 : Int32) : Prop :=
  ((¬ a0 = 0 → ((¬ a0 = 64 → Q (.inl (some (.long ((jlshl 1 a0) - 1)))) σ) ∧ (a0 = 64 → Q (.inl (some (.long (-1)))) σ))) ∧ (a0 = 0 → Q (.inl (some (.long 1))) σ))
set_option maxRecDepth 20000 in
theorem s_VectorSolverModel_mask {γ : xG1} {d : Nat} {Q : xO → xS → Prop} {σ : xS} {a0 : Int32} (h : wp_VectorSolverModel_mask Q σ a0) : xM (SHP, γ) Y_VectorSolverModel_mask (d + 0) [.int a0] σ Q := by
  refine xM.of (by decide) (Nat.le_of_ble_eq_true rfl) ?_
  refine xJ.iload_n (o_VectorSolverModel_mask 0 rfl) rfl ?_
  refine xJ.if_ne (tgt := 8) (o_VectorSolverModel_mask 1 rfl) (by decide) (fun z => ?_) (fun z => ?_)
  · replace h := h.1 z
    refine xJ.iload_n (o_VectorSolverModel_mask 4 rfl) rfl ?_
    refine xJ.bipush (v := 64) (o_VectorSolverModel_mask 5 rfl) (by decide) ?_
    refine xJ.icmp_ne (tgt := 20) (o_VectorSolverModel_mask 6 rfl) (by decide) (fun z => ?_) (fun z => ?_)
    · replace h := h.1 z
      refine xJ.lconst (v := 1) (o_VectorSolverModel_mask 9 rfl) (by decide) ?_
      refine xJ.iload_n (o_VectorSolverModel_mask 10 rfl) rfl ?_
      refine xJ.lshl (o_VectorSolverModel_mask 11 rfl) rfl ?_
      refine xJ.lconst (v := 1) (o_VectorSolverModel_mask 12 rfl) (by decide) ?_
      refine xJ.lsub (o_VectorSolverModel_mask 13 rfl) ?_
      exact xJ.lreturn (o_VectorSolverModel_mask 14 rfl) rfl h
    · replace h := h.2 z
      refine xJ.ldc2 (v := (-1)) (o_VectorSolverModel_mask 7 rfl) k_VectorSolverModel_335 ?_
      refine xJ.goto (tgt := 25) (o_VectorSolverModel_mask 8 rfl) (by decide) ?_
      exact xJ.lreturn (o_VectorSolverModel_mask 14 rfl) rfl h
  · replace h := h.2 z
    refine xJ.lconst (v := 1) (o_VectorSolverModel_mask 2 rfl) (by decide) ?_
    refine xJ.goto (tgt := 25) (o_VectorSolverModel_mask 3 rfl) (by decide) ?_
    exact xJ.lreturn (o_VectorSolverModel_mask 14 rfl) rfl h
def w_VectorSolverModel_divide_56 (Q : xO → xS → Prop) (K10 : Int64 → Int64 → Int32 → Int64 → Int64 → Int32 → xS → Prop) (a0 : Int64) (a2 : Int64) (a4 : Int32) (a5 : Int64) (a7 : Int64) (a9 : Int32) (σ : xS) : Prop :=
  (∀ x2 : Int64, x2 = (a7 - a2) → (∀ x3 : Int64, x3 = (a5 ||| (jlshl 1 a9)) → (∀ x4 : Int32, x4 = a9 + (-1) → K10 a0 a2 a4 x3 x2 x4 σ)))
def w_VectorSolverModel_divide_27 (Q : xO → xS → Prop) (K10 : Int64 → Int64 → Int32 → Int64 → Int64 → Int32 → xS → Prop) (a0 : Int64) (a2 : Int64) (a4 : Int32) (a5 : Int64) (a7 : Int64) (a9 : Int32) (t0 : Int32) (σ : xS) : Prop :=
  (∀ x1 : Int64, x1 = ((jlshl a7 1) ||| ((jlshr a0 a9) &&& 1)) → ((¬ t0 = 0 → w_VectorSolverModel_divide_56 Q K10 a0 a2 a4 a5 x1 a9 σ) ∧ (t0 = 0 → wp_VectorSolverModel_isBelow (xqi (fun r6 u5 => ((¬ r6 = 0 → (∀ x7 : Int32, x7 = a9 + (-1) → K10 a0 a2 a4 a5 x1 x7 u5)) ∧ (r6 = 0 → w_VectorSolverModel_divide_56 Q K10 a0 a2 a4 a5 x1 a9 u5))) (fun n u => Q (.inr n) u)) σ x1 a2)))
def w_VectorSolverModel_divide_10 (Q : xO → xS → Prop) : Nat → Int64 → Int64 → Int32 → Int64 → Int64 → Int32 → xS → Prop
  | 0 => fun _ _ _ _ _ _ _ => False
  | n + 1 => fun a0 a2 a4 a5 a7 a9 σ =>
    ((a9 < 0 → ((a4 = 0 → Q (.inl (some (.long a5))) σ) ∧ (¬ a4 = 0 → Q (.inl (some (.long a7))) σ))) ∧ (¬ a9 < 0 → ((0 ≤ (lg_cmp a7 0) → w_VectorSolverModel_divide_27 Q (w_VectorSolverModel_divide_10 Q n) a0 a2 a4 a5 a7 a9 0 σ) ∧ (¬ 0 ≤ (lg_cmp a7 0) → w_VectorSolverModel_divide_27 Q (w_VectorSolverModel_divide_10 Q n) a0 a2 a4 a5 a7 a9 1 σ))))
def wp_VectorSolverModel_divide (Q : xO → xS → Prop) (σ : xS) (a0 : Int64) (a2 : Int64) (a4 : Int32) : Prop :=
  ∃ m, w_VectorSolverModel_divide_10 Q m a0 a2 a4 0 0 63 σ
set_option maxRecDepth 20000 in
theorem sw_VectorSolverModel_divide_56 {γ : xG1} {d b0 : Nat} {Q : xO → xS → Prop} {K10 : Int64 → Int64 → Int32 → Int64 → Int64 → Int32 → xS → Prop} (hK10 : ∀ a0 a2 a4 a5 a7 a9 σ, K10 a0 a2 a4 a5 a7 a9 σ → xJ (SHP, γ) Y_VectorSolverModel_divide (d + 1) b0 10 [(0, .long a0), (2, .long a2), (4, .int a4), (5, .long a5), (7, .long a7), (9, .int a9)] [] σ Q) {a0 : Int64} {a2 : Int64} {a4 : Int32} {a5 : Int64} {a7 : Int64} {a9 : Int32} {σ : xS} (h : w_VectorSolverModel_divide_56 Q K10 a0 a2 a4 a5 a7 a9 σ) : xJ (SHP, γ) Y_VectorSolverModel_divide (d + 1) b0 56 [(0, .long a0), (2, .long a2), (4, .int a4), (5, .long a5), (7, .long a7), (9, .int a9)] [] σ Q := by
  refine xJ.lload (o_VectorSolverModel_divide 32 rfl) rfl ?_
  refine xJ.lload_n (o_VectorSolverModel_divide 33 rfl) rfl ?_
  refine xJ.lsub (o_VectorSolverModel_divide 34 rfl) ?_
  refine xJ.lstore (o_VectorSolverModel_divide 35 rfl) (by decide) ?_
  replace h := h _ rfl
  refine xJ.lload (o_VectorSolverModel_divide 36 rfl) rfl ?_
  refine xJ.lconst (v := 1) (o_VectorSolverModel_divide 37 rfl) (by decide) ?_
  refine xJ.iload (o_VectorSolverModel_divide 38 rfl) rfl ?_
  refine xJ.lshl (o_VectorSolverModel_divide 39 rfl) rfl ?_
  refine xJ.lor (o_VectorSolverModel_divide 40 rfl) ?_
  refine xJ.lstore (o_VectorSolverModel_divide 41 rfl) (by decide) ?_
  replace h := h _ rfl
  refine xJ.iincC (w := (-1)) (o_VectorSolverModel_divide 42 rfl) rfl (by decide) (by decide) ?_
  replace h := h _ rfl
  refine xJ.goto (tgt := 10) (o_VectorSolverModel_divide 43 rfl) (by decide) ?_
  exact xJ.lvs (by exact ⟨rfl, rfl, rfl, rfl, rfl, rfl, trivial⟩) (hK10 _ _ _ _ _ _ _ h)
set_option maxRecDepth 20000 in
theorem sw_VectorSolverModel_divide_27 {γ : xG1} {d b0 : Nat} {Q : xO → xS → Prop} {K10 : Int64 → Int64 → Int32 → Int64 → Int64 → Int32 → xS → Prop} (hK10 : ∀ a0 a2 a4 a5 a7 a9 σ, K10 a0 a2 a4 a5 a7 a9 σ → xJ (SHP, γ) Y_VectorSolverModel_divide (d + 1) b0 10 [(0, .long a0), (2, .long a2), (4, .int a4), (5, .long a5), (7, .long a7), (9, .int a9)] [] σ Q) {a0 : Int64} {a2 : Int64} {a4 : Int32} {a5 : Int64} {a7 : Int64} {a9 : Int32} {t0 : Int32} {σ : xS} (h : w_VectorSolverModel_divide_27 Q K10 a0 a2 a4 a5 a7 a9 t0 σ) : xJ (SHP, γ) Y_VectorSolverModel_divide (d + 1) b0 27 [(0, .long a0), (2, .long a2), (4, .int a4), (5, .long a5), (7, .long a7), (9, .int a9)] [.int t0] σ Q := by
  refine xJ.istore (o_VectorSolverModel_divide 15 rfl) (by decide) ?_
  refine xJ.lload (o_VectorSolverModel_divide 16 rfl) rfl ?_
  refine xJ.iconst (v := 1) (o_VectorSolverModel_divide 17 rfl) (by decide) ?_
  refine xJ.lshl (o_VectorSolverModel_divide 18 rfl) rfl ?_
  refine xJ.lload_n (o_VectorSolverModel_divide 19 rfl) rfl ?_
  refine xJ.iload (o_VectorSolverModel_divide 20 rfl) rfl ?_
  refine xJ.lshr (o_VectorSolverModel_divide 21 rfl) rfl ?_
  refine xJ.lconst (v := 1) (o_VectorSolverModel_divide 22 rfl) (by decide) ?_
  refine xJ.land (o_VectorSolverModel_divide 23 rfl) ?_
  refine xJ.lor (o_VectorSolverModel_divide 24 rfl) ?_
  refine xJ.lstore (o_VectorSolverModel_divide 25 rfl) (by decide) ?_
  replace h := h _ rfl
  refine xJ.iload (o_VectorSolverModel_divide 26 rfl) rfl ?_
  refine xJ.if_ne (tgt := 56) (o_VectorSolverModel_divide 27 rfl) (by decide) (fun z => ?_) (fun z => ?_)
  · replace h := h.1 z
    exact xJ.lvs (by exact ⟨rfl, rfl, rfl, rfl, rfl, rfl, trivial⟩) (sw_VectorSolverModel_divide_56 hK10 h)
  · replace h := h.2 z
    refine xJ.lload (o_VectorSolverModel_divide 28 rfl) rfl ?_
    refine xJ.lload_n (o_VectorSolverModel_divide 29 rfl) rfl ?_
    refine xJ.callS (Y' := Y_VectorSolverModel_isBelow) (o_VectorSolverModel_divide 30 rfl) m_VectorSolverModel_339 y_VectorSolverModel_isBelow st_VectorSolverModel_isBelow (s_VectorSolverModel_isBelow h) rfl rfl (Nat.le_of_ble_eq_true rfl) (fun _ hx => by cases hx) (fun v u q => ?_) (fun n u q => q)
    obtain ⟨r, rfl, h⟩ := xqi_get q
    refine xJ.if_ne (tgt := 71) (o_VectorSolverModel_divide 31 rfl) (by decide) (fun z => ?_) (fun z => ?_)
    · replace h := h.1 z
      refine xJ.iincC (w := (-1)) (o_VectorSolverModel_divide 42 rfl) rfl (by decide) (by decide) ?_
      replace h := h _ rfl
      refine xJ.goto (tgt := 10) (o_VectorSolverModel_divide 43 rfl) (by decide) ?_
      exact xJ.lvs (by exact ⟨rfl, rfl, rfl, rfl, rfl, rfl, trivial⟩) (hK10 _ _ _ _ _ _ _ h)
    · replace h := h.2 z
      exact xJ.lvs (by exact ⟨rfl, rfl, rfl, rfl, rfl, rfl, trivial⟩) (sw_VectorSolverModel_divide_56 hK10 h)
set_option maxRecDepth 20000 in
theorem sw_VectorSolverModel_divide_10 {γ : xG1} {d b0 : Nat} {Q : xO → xS → Prop} : ∀ (n : Nat) (a0 : Int64) (a2 : Int64) (a4 : Int32) (a5 : Int64) (a7 : Int64) (a9 : Int32) (σ : xS), w_VectorSolverModel_divide_10 Q n a0 a2 a4 a5 a7 a9 σ → xJ (SHP, γ) Y_VectorSolverModel_divide (d + 1) b0 10 [(0, .long a0), (2, .long a2), (4, .int a4), (5, .long a5), (7, .long a7), (9, .int a9)] [] σ Q := by
  intro n
  induction n with
  | zero => intro a0 a2 a4 a5 a7 a9 σ h; exact h.elim
  | succ n ih =>
    intro a0 a2 a4 a5 a7 a9 σ h
    refine xJ.iload (o_VectorSolverModel_divide 6 rfl) rfl ?_
    refine xJ.if_lt (tgt := 77) (o_VectorSolverModel_divide 7 rfl) (by decide) (fun z => ?_) (fun z => ?_)
    · replace h := h.1 z
      refine xJ.iload (o_VectorSolverModel_divide 44 rfl) rfl ?_
      refine xJ.if_eq (tgt := 87) (o_VectorSolverModel_divide 45 rfl) (by decide) (fun z => ?_) (fun z => ?_)
      · replace h := h.1 z
        refine xJ.lload (o_VectorSolverModel_divide 48 rfl) rfl ?_
        exact xJ.lreturn (o_VectorSolverModel_divide 49 rfl) rfl h
      · replace h := h.2 z
        refine xJ.lload (o_VectorSolverModel_divide 46 rfl) rfl ?_
        refine xJ.goto (tgt := 89) (o_VectorSolverModel_divide 47 rfl) (by decide) ?_
        exact xJ.lreturn (o_VectorSolverModel_divide 49 rfl) rfl h
    · replace h := h.2 z
      refine xJ.lload (o_VectorSolverModel_divide 8 rfl) rfl ?_
      refine xJ.lconst (v := 0) (o_VectorSolverModel_divide 9 rfl) (by decide) ?_
      refine xJ.lcmp (o_VectorSolverModel_divide 10 rfl) ?_
      refine xJ.if_ge (tgt := 26) (o_VectorSolverModel_divide 11 rfl) (by decide) (fun z => ?_) (fun z => ?_)
      · replace h := h.1 z
        refine xJ.iconst (v := 0) (o_VectorSolverModel_divide 14 rfl) (by decide) ?_
        exact xJ.lvs (by exact ⟨rfl, rfl, rfl, rfl, rfl, rfl, trivial⟩) (sw_VectorSolverModel_divide_27 ih h)
      · replace h := h.2 z
        refine xJ.iconst (v := 1) (o_VectorSolverModel_divide 12 rfl) (by decide) ?_
        refine xJ.goto (tgt := 27) (o_VectorSolverModel_divide 13 rfl) (by decide) ?_
        exact xJ.lvs (by exact ⟨rfl, rfl, rfl, rfl, rfl, rfl, trivial⟩) (sw_VectorSolverModel_divide_27 ih h)
set_option maxRecDepth 20000 in
theorem s_VectorSolverModel_divide {γ : xG1} {d : Nat} {Q : xO → xS → Prop} {σ : xS} {a0 : Int64} {a2 : Int64} {a4 : Int32} (h : wp_VectorSolverModel_divide Q σ a0 a2 a4) : xM (SHP, γ) Y_VectorSolverModel_divide (d + 1) [.long a0, .long a2, .int a4] σ Q := by
  refine xM.of (by decide) (Nat.le_of_ble_eq_true rfl) ?_
  refine xJ.lconst (v := 0) (o_VectorSolverModel_divide 0 rfl) (by decide) ?_
  refine xJ.lstore (o_VectorSolverModel_divide 1 rfl) (by decide) ?_
  refine xJ.lconst (v := 0) (o_VectorSolverModel_divide 2 rfl) (by decide) ?_
  refine xJ.lstore (o_VectorSolverModel_divide 3 rfl) (by decide) ?_
  refine xJ.bipush (v := 63) (o_VectorSolverModel_divide 4 rfl) (by decide) ?_
  refine xJ.istore (o_VectorSolverModel_divide 5 rfl) (by decide) ?_
  obtain ⟨m, h⟩ := h
  exact xJ.lvs (by exact ⟨rfl, rfl, rfl, rfl, rfl, rfl, trivial⟩) (sw_VectorSolverModel_divide_10 m _ _ _ _ _ _ _ h)
def w_VectorSolverModel_divided_193 (Q : xO → xS → Prop) (a10 : Int64) (t0 : Int32) (σ : xS) : Prop :=
  ((t0 = 0 → Q (.inl (some (.long a10))) σ) ∧ (¬ t0 = 0 → Q (.inl (some (.long (-a10)))) σ))
def w_VectorSolverModel_divided_185 (Q : xO → xS → Prop) (a10 : Int64) (t0 : Int32) (t1 : Int32) (σ : xS) : Prop :=
  ((t0 = t1 → w_VectorSolverModel_divided_193 Q a10 0 σ) ∧ (¬ t0 = t1 → w_VectorSolverModel_divided_193 Q a10 1 σ))
def w_VectorSolverModel_divided_173 (Q : xO → xS → Prop) (a8 : Int64) (a10 : Int64) (t0 : Int32) (σ : xS) : Prop :=
  ((0 ≤ (lg_cmp a8 0) → w_VectorSolverModel_divided_185 Q a10 t0 0 σ) ∧ (¬ 0 ≤ (lg_cmp a8 0) → w_VectorSolverModel_divided_185 Q a10 t0 1 σ))
def w_VectorSolverModel_divided_135 (Q : xO → xS → Prop) (a0 : Int32) (a6 : Int64) (a8 : Int64) (t0 : Int64) (t1 : Int64) (t2 : Int32) (σ : xS) : Prop :=
  wp_VectorSolverModel_divide (xql (fun r6 u5 => ((¬ a0 = 21 → ((0 ≤ (lg_cmp a6 0) → w_VectorSolverModel_divided_173 Q a8 r6 0 u5) ∧ (¬ 0 ≤ (lg_cmp a6 0) → w_VectorSolverModel_divided_173 Q a8 r6 1 u5))) ∧ (a0 = 21 → ((0 ≤ (lg_cmp a6 0) → w_VectorSolverModel_divided_193 Q r6 0 u5) ∧ (¬ 0 ≤ (lg_cmp a6 0) → w_VectorSolverModel_divided_193 Q r6 1 u5))))) (fun n u => Q (.inr n) u)) σ t0 t1 t2
def w_VectorSolverModel_divided_124 (Q : xO → xS → Prop) (a0 : Int32) (a6 : Int64) (a8 : Int64) (t0 : Int64) (t1 : Int64) (σ : xS) : Prop :=
  ((¬ a0 = 21 → w_VectorSolverModel_divided_135 Q a0 a6 a8 t0 t1 0 σ) ∧ (a0 = 21 → w_VectorSolverModel_divided_135 Q a0 a6 a8 t0 t1 1 σ))
def w_VectorSolverModel_divided_109 (Q : xO → xS → Prop) (a0 : Int32) (a6 : Int64) (a8 : Int64) (t0 : Int64) (σ : xS) : Prop :=
  ((0 ≤ (lg_cmp a8 0) → w_VectorSolverModel_divided_124 Q a0 a6 a8 t0 a8 σ) ∧ (¬ 0 ≤ (lg_cmp a8 0) → w_VectorSolverModel_divided_124 Q a0 a6 a8 t0 (-a8) σ))
def w_VectorSolverModel_divided_41 (Q : xO → xS → Prop) (t0 : Int64) (t1 : Int64) (t2 : Int32) (σ : xS) : Prop :=
  wp_VectorSolverModel_divide (xql (fun r8 u7 => Q (.inl (some (.long r8))) u7) (fun n u => Q (.inr n) u)) σ t0 t1 t2
def wp_VectorSolverModel_divided (Q : xO → xS → Prop) (σ : xS) (a0 : Int32) (a1 : Int64) (a3 : Int64) (a5 : Int32) : Prop :=
  ((20 ≤ a0 → wp_VectorSolverModel_signed (xql (fun r2 u1 => wp_VectorSolverModel_signed (xql (fun r4 u3 => ((¬ (lg_cmp r4 0) = 0 → ((0 ≤ (lg_cmp r2 0) → w_VectorSolverModel_divided_109 Q a0 r2 r4 r2 u3) ∧ (¬ 0 ≤ (lg_cmp r2 0) → w_VectorSolverModel_divided_109 Q a0 r2 r4 (-r2) u3))) ∧ ((lg_cmp r4 0) = 0 → ((¬ a0 = 21 → ((0 ≤ (lg_cmp r2 0) → Q (.inl (some (.long (-1)))) u3) ∧ (¬ 0 ≤ (lg_cmp r2 0) → Q (.inl (some (.long 1))) u3))) ∧ (a0 = 21 → Q (.inl (some (.long r2))) u3))))) (fun n u => Q (.inr n) u)) u1 a3 a5) (fun n u => Q (.inr n) u)) σ a1 a5) ∧ (¬ 20 ≤ a0 → ((¬ (lg_cmp a3 0) = 0 → ((¬ a0 = 19 → w_VectorSolverModel_divided_41 Q a1 a3 0 σ) ∧ (a0 = 19 → w_VectorSolverModel_divided_41 Q a1 a3 1 σ))) ∧ ((lg_cmp a3 0) = 0 → ((¬ a0 = 18 → Q (.inl (some (.long a1))) σ) ∧ (a0 = 18 → Q (.inl (some (.long (-1)))) σ))))))
set_option maxRecDepth 20000 in
theorem sw_VectorSolverModel_divided_193 {γ : xG1} {d b0 : Nat} {Q : xO → xS → Prop} {a10 : Int64} {t0 : Int32} {σ : xS} (h : w_VectorSolverModel_divided_193 Q a10 t0 σ) : xJ (SHP, γ) Y_VectorSolverModel_divided (d + 2) b0 193 [(10, .long a10)] [.int t0] σ Q := by
  refine xJ.istore (o_VectorSolverModel_divided 102 rfl) (by decide) ?_
  refine xJ.iload (o_VectorSolverModel_divided 103 rfl) rfl ?_
  refine xJ.if_eq (tgt := 206) (o_VectorSolverModel_divided 104 rfl) (by decide) (fun z => ?_) (fun z => ?_)
  · replace h := h.1 z
    refine xJ.lload (o_VectorSolverModel_divided 108 rfl) rfl ?_
    exact xJ.lreturn (o_VectorSolverModel_divided 109 rfl) rfl h
  · replace h := h.2 z
    refine xJ.lload (o_VectorSolverModel_divided 105 rfl) rfl ?_
    refine xJ.lneg (o_VectorSolverModel_divided 106 rfl) ?_
    refine xJ.goto (tgt := 208) (o_VectorSolverModel_divided 107 rfl) (by decide) ?_
    exact xJ.lreturn (o_VectorSolverModel_divided 109 rfl) rfl h
set_option maxRecDepth 20000 in
theorem sw_VectorSolverModel_divided_185 {γ : xG1} {d b0 : Nat} {Q : xO → xS → Prop} {a10 : Int64} {t0 : Int32} {t1 : Int32} {σ : xS} (h : w_VectorSolverModel_divided_185 Q a10 t0 t1 σ) : xJ (SHP, γ) Y_VectorSolverModel_divided (d + 2) b0 185 [(10, .long a10)] [.int t1, .int t0] σ Q := by
  refine xJ.icmp_eq (tgt := 192) (o_VectorSolverModel_divided 98 rfl) (by decide) (fun z => ?_) (fun z => ?_)
  · replace h := h.1 z
    refine xJ.iconst (v := 0) (o_VectorSolverModel_divided 101 rfl) (by decide) ?_
    exact xJ.lvs (by exact ⟨rfl, trivial⟩) (sw_VectorSolverModel_divided_193 h)
  · replace h := h.2 z
    refine xJ.iconst (v := 1) (o_VectorSolverModel_divided 99 rfl) (by decide) ?_
    refine xJ.goto (tgt := 193) (o_VectorSolverModel_divided 100 rfl) (by decide) ?_
    exact xJ.lvs (by exact ⟨rfl, trivial⟩) (sw_VectorSolverModel_divided_193 h)
set_option maxRecDepth 20000 in
theorem sw_VectorSolverModel_divided_173 {γ : xG1} {d b0 : Nat} {Q : xO → xS → Prop} {a8 : Int64} {a10 : Int64} {t0 : Int32} {σ : xS} (h : w_VectorSolverModel_divided_173 Q a8 a10 t0 σ) : xJ (SHP, γ) Y_VectorSolverModel_divided (d + 2) b0 173 [(8, .long a8), (10, .long a10)] [.int t0] σ Q := by
  refine xJ.lload (o_VectorSolverModel_divided 91 rfl) rfl ?_
  refine xJ.lconst (v := 0) (o_VectorSolverModel_divided 92 rfl) (by decide) ?_
  refine xJ.lcmp (o_VectorSolverModel_divided 93 rfl) ?_
  refine xJ.if_ge (tgt := 184) (o_VectorSolverModel_divided 94 rfl) (by decide) (fun z => ?_) (fun z => ?_)
  · replace h := h.1 z
    refine xJ.iconst (v := 0) (o_VectorSolverModel_divided 97 rfl) (by decide) ?_
    exact xJ.lvs (by exact ⟨rfl, trivial⟩) (sw_VectorSolverModel_divided_185 h)
  · replace h := h.2 z
    refine xJ.iconst (v := 1) (o_VectorSolverModel_divided 95 rfl) (by decide) ?_
    refine xJ.goto (tgt := 185) (o_VectorSolverModel_divided 96 rfl) (by decide) ?_
    exact xJ.lvs (by exact ⟨rfl, trivial⟩) (sw_VectorSolverModel_divided_185 h)
set_option maxRecDepth 20000 in
theorem sw_VectorSolverModel_divided_135 {γ : xG1} {d b0 : Nat} {Q : xO → xS → Prop} {a0 : Int32} {a6 : Int64} {a8 : Int64} {t0 : Int64} {t1 : Int64} {t2 : Int32} {σ : xS} (h : w_VectorSolverModel_divided_135 Q a0 a6 a8 t0 t1 t2 σ) : xJ (SHP, γ) Y_VectorSolverModel_divided (d + 2) b0 135 [(0, .int a0), (6, .long a6), (8, .long a8)] [.int t2, .long t1, .long t0] σ Q := by
  refine xJ.callS (Y' := Y_VectorSolverModel_divide) (o_VectorSolverModel_divided 71 rfl) m_VectorSolverModel_343 y_VectorSolverModel_divide st_VectorSolverModel_divide (s_VectorSolverModel_divide h) rfl rfl (Nat.le_of_ble_eq_true rfl) (fun _ hx => by cases hx) (fun v u q => ?_) (fun n u q => q)
  obtain ⟨r, rfl, h⟩ := xql_get q
  refine xJ.lstore (o_VectorSolverModel_divided 72 rfl) (by decide) ?_
  refine xJ.iload_n (o_VectorSolverModel_divided 73 rfl) rfl ?_
  refine xJ.bipush (v := 21) (o_VectorSolverModel_divided 74 rfl) (by decide) ?_
  refine xJ.icmp_ne (tgt := 161) (o_VectorSolverModel_divided 75 rfl) (by decide) (fun z => ?_) (fun z => ?_)
  · replace h := h.1 z
    refine xJ.lload (o_VectorSolverModel_divided 84 rfl) rfl ?_
    refine xJ.lconst (v := 0) (o_VectorSolverModel_divided 85 rfl) (by decide) ?_
    refine xJ.lcmp (o_VectorSolverModel_divided 86 rfl) ?_
    refine xJ.if_ge (tgt := 172) (o_VectorSolverModel_divided 87 rfl) (by decide) (fun z => ?_) (fun z => ?_)
    · replace h := h.1 z
      refine xJ.iconst (v := 0) (o_VectorSolverModel_divided 90 rfl) (by decide) ?_
      exact xJ.lvs (by exact ⟨rfl, rfl, trivial⟩) (sw_VectorSolverModel_divided_173 h)
    · replace h := h.2 z
      refine xJ.iconst (v := 1) (o_VectorSolverModel_divided 88 rfl) (by decide) ?_
      refine xJ.goto (tgt := 173) (o_VectorSolverModel_divided 89 rfl) (by decide) ?_
      exact xJ.lvs (by exact ⟨rfl, rfl, trivial⟩) (sw_VectorSolverModel_divided_173 h)
  · replace h := h.2 z
    refine xJ.lload (o_VectorSolverModel_divided 76 rfl) rfl ?_
    refine xJ.lconst (v := 0) (o_VectorSolverModel_divided 77 rfl) (by decide) ?_
    refine xJ.lcmp (o_VectorSolverModel_divided 78 rfl) ?_
    refine xJ.if_ge (tgt := 157) (o_VectorSolverModel_divided 79 rfl) (by decide) (fun z => ?_) (fun z => ?_)
    · replace h := h.1 z
      refine xJ.iconst (v := 0) (o_VectorSolverModel_divided 82 rfl) (by decide) ?_
      refine xJ.goto (tgt := 193) (o_VectorSolverModel_divided 83 rfl) (by decide) ?_
      exact xJ.lvs (by exact ⟨rfl, trivial⟩) (sw_VectorSolverModel_divided_193 h)
    · replace h := h.2 z
      refine xJ.iconst (v := 1) (o_VectorSolverModel_divided 80 rfl) (by decide) ?_
      refine xJ.goto (tgt := 193) (o_VectorSolverModel_divided 81 rfl) (by decide) ?_
      exact xJ.lvs (by exact ⟨rfl, trivial⟩) (sw_VectorSolverModel_divided_193 h)
set_option maxRecDepth 20000 in
theorem sw_VectorSolverModel_divided_124 {γ : xG1} {d b0 : Nat} {Q : xO → xS → Prop} {a0 : Int32} {a6 : Int64} {a8 : Int64} {t0 : Int64} {t1 : Int64} {σ : xS} (h : w_VectorSolverModel_divided_124 Q a0 a6 a8 t0 t1 σ) : xJ (SHP, γ) Y_VectorSolverModel_divided (d + 2) b0 124 [(0, .int a0), (6, .long a6), (8, .long a8)] [.long t1, .long t0] σ Q := by
  refine xJ.iload_n (o_VectorSolverModel_divided 65 rfl) rfl ?_
  refine xJ.bipush (v := 21) (o_VectorSolverModel_divided 66 rfl) (by decide) ?_
  refine xJ.icmp_ne (tgt := 134) (o_VectorSolverModel_divided 67 rfl) (by decide) (fun z => ?_) (fun z => ?_)
  · replace h := h.1 z
    refine xJ.iconst (v := 0) (o_VectorSolverModel_divided 70 rfl) (by decide) ?_
    exact xJ.lvs (by exact ⟨rfl, rfl, rfl, trivial⟩) (sw_VectorSolverModel_divided_135 h)
  · replace h := h.2 z
    refine xJ.iconst (v := 1) (o_VectorSolverModel_divided 68 rfl) (by decide) ?_
    refine xJ.goto (tgt := 135) (o_VectorSolverModel_divided 69 rfl) (by decide) ?_
    exact xJ.lvs (by exact ⟨rfl, rfl, rfl, trivial⟩) (sw_VectorSolverModel_divided_135 h)
set_option maxRecDepth 20000 in
theorem sw_VectorSolverModel_divided_109 {γ : xG1} {d b0 : Nat} {Q : xO → xS → Prop} {a0 : Int32} {a6 : Int64} {a8 : Int64} {t0 : Int64} {σ : xS} (h : w_VectorSolverModel_divided_109 Q a0 a6 a8 t0 σ) : xJ (SHP, γ) Y_VectorSolverModel_divided (d + 2) b0 109 [(0, .int a0), (6, .long a6), (8, .long a8)] [.long t0] σ Q := by
  refine xJ.lload (o_VectorSolverModel_divided 57 rfl) rfl ?_
  refine xJ.lconst (v := 0) (o_VectorSolverModel_divided 58 rfl) (by decide) ?_
  refine xJ.lcmp (o_VectorSolverModel_divided 59 rfl) ?_
  refine xJ.if_ge (tgt := 122) (o_VectorSolverModel_divided 60 rfl) (by decide) (fun z => ?_) (fun z => ?_)
  · replace h := h.1 z
    refine xJ.lload (o_VectorSolverModel_divided 64 rfl) rfl ?_
    exact xJ.lvs (by exact ⟨rfl, rfl, rfl, trivial⟩) (sw_VectorSolverModel_divided_124 h)
  · replace h := h.2 z
    refine xJ.lload (o_VectorSolverModel_divided 61 rfl) rfl ?_
    refine xJ.lneg (o_VectorSolverModel_divided 62 rfl) ?_
    refine xJ.goto (tgt := 124) (o_VectorSolverModel_divided 63 rfl) (by decide) ?_
    exact xJ.lvs (by exact ⟨rfl, rfl, rfl, trivial⟩) (sw_VectorSolverModel_divided_124 h)
set_option maxRecDepth 20000 in
theorem sw_VectorSolverModel_divided_41 {γ : xG1} {d b0 : Nat} {Q : xO → xS → Prop} {t0 : Int64} {t1 : Int64} {t2 : Int32} {σ : xS} (h : w_VectorSolverModel_divided_41 Q t0 t1 t2 σ) : xJ (SHP, γ) Y_VectorSolverModel_divided (d + 2) b0 41 [] [.int t2, .long t1, .long t0] σ Q := by
  refine xJ.callS (Y' := Y_VectorSolverModel_divide) (o_VectorSolverModel_divided 22 rfl) m_VectorSolverModel_343 y_VectorSolverModel_divide st_VectorSolverModel_divide (s_VectorSolverModel_divide h) rfl rfl (Nat.le_of_ble_eq_true rfl) (fun _ hx => by cases hx) (fun v u q => ?_) (fun n u q => q)
  obtain ⟨r, rfl, h⟩ := xql_get q
  exact xJ.lreturn (o_VectorSolverModel_divided 23 rfl) rfl h
set_option maxRecDepth 20000 in
theorem s_VectorSolverModel_divided {γ : xG1} {d : Nat} {Q : xO → xS → Prop} {σ : xS} {a0 : Int32} {a1 : Int64} {a3 : Int64} {a5 : Int32} (h : wp_VectorSolverModel_divided Q σ a0 a1 a3 a5) : xM (SHP, γ) Y_VectorSolverModel_divided (d + 2) [.int a0, .long a1, .long a3, .int a5] σ Q := by
  refine xM.of (by decide) (Nat.le_of_ble_eq_true rfl) ?_
  refine xJ.iload_n (o_VectorSolverModel_divided 0 rfl) rfl ?_
  refine xJ.bipush (v := 20) (o_VectorSolverModel_divided 1 rfl) (by decide) ?_
  refine xJ.icmp_ge (tgt := 45) (o_VectorSolverModel_divided 2 rfl) (by decide) (fun z => ?_) (fun z => ?_)
  · replace h := h.1 z
    refine xJ.lload_n (o_VectorSolverModel_divided 24 rfl) rfl ?_
    refine xJ.iload (o_VectorSolverModel_divided 25 rfl) rfl ?_
    refine xJ.callS (Y' := Y_VectorSolverModel_signed) (o_VectorSolverModel_divided 26 rfl) m_VectorSolverModel_347 y_VectorSolverModel_signed st_VectorSolverModel_signed (s_VectorSolverModel_signed h) rfl rfl (Nat.le_of_ble_eq_true rfl) (fun _ hx => by cases hx) (fun v u q => ?_) (fun n u q => q)
    obtain ⟨r, rfl, h⟩ := xql_get q
    refine xJ.lstore (o_VectorSolverModel_divided 27 rfl) (by decide) ?_
    refine xJ.lload_n (o_VectorSolverModel_divided 28 rfl) rfl ?_
    refine xJ.iload (o_VectorSolverModel_divided 29 rfl) rfl ?_
    refine xJ.callS (Y' := Y_VectorSolverModel_signed) (o_VectorSolverModel_divided 30 rfl) m_VectorSolverModel_347 y_VectorSolverModel_signed st_VectorSolverModel_signed (s_VectorSolverModel_signed h) rfl rfl (Nat.le_of_ble_eq_true rfl) (fun _ hx => by cases hx) (fun v u q => ?_) (fun n u q => q)
    obtain ⟨r, rfl, h⟩ := xql_get q
    refine xJ.lstore (o_VectorSolverModel_divided 31 rfl) (by decide) ?_
    refine xJ.lload (o_VectorSolverModel_divided 32 rfl) rfl ?_
    refine xJ.lconst (v := 0) (o_VectorSolverModel_divided 33 rfl) (by decide) ?_
    refine xJ.lcmp (o_VectorSolverModel_divided 34 rfl) ?_
    refine xJ.if_ne (tgt := 94) (o_VectorSolverModel_divided 35 rfl) (by decide) (fun z => ?_) (fun z => ?_)
    · replace h := h.1 z
      refine xJ.lload (o_VectorSolverModel_divided 49 rfl) rfl ?_
      refine xJ.lconst (v := 0) (o_VectorSolverModel_divided 50 rfl) (by decide) ?_
      refine xJ.lcmp (o_VectorSolverModel_divided 51 rfl) ?_
      refine xJ.if_ge (tgt := 107) (o_VectorSolverModel_divided 52 rfl) (by decide) (fun z => ?_) (fun z => ?_)
      · replace h := h.1 z
        refine xJ.lload (o_VectorSolverModel_divided 56 rfl) rfl ?_
        exact xJ.lvs (by exact ⟨rfl, rfl, rfl, trivial⟩) (sw_VectorSolverModel_divided_109 h)
      · replace h := h.2 z
        refine xJ.lload (o_VectorSolverModel_divided 53 rfl) rfl ?_
        refine xJ.lneg (o_VectorSolverModel_divided 54 rfl) ?_
        refine xJ.goto (tgt := 109) (o_VectorSolverModel_divided 55 rfl) (by decide) ?_
        exact xJ.lvs (by exact ⟨rfl, rfl, rfl, trivial⟩) (sw_VectorSolverModel_divided_109 h)
    · replace h := h.2 z
      refine xJ.iload_n (o_VectorSolverModel_divided 36 rfl) rfl ?_
      refine xJ.bipush (v := 21) (o_VectorSolverModel_divided 37 rfl) (by decide) ?_
      refine xJ.icmp_ne (tgt := 79) (o_VectorSolverModel_divided 38 rfl) (by decide) (fun z => ?_) (fun z => ?_)
      · replace h := h.1 z
        refine xJ.lload (o_VectorSolverModel_divided 41 rfl) rfl ?_
        refine xJ.lconst (v := 0) (o_VectorSolverModel_divided 42 rfl) (by decide) ?_
        refine xJ.lcmp (o_VectorSolverModel_divided 43 rfl) ?_
        refine xJ.if_ge (tgt := 90) (o_VectorSolverModel_divided 44 rfl) (by decide) (fun z => ?_) (fun z => ?_)
        · replace h := h.1 z
          refine xJ.ldc2 (v := (-1)) (o_VectorSolverModel_divided 47 rfl) k_VectorSolverModel_335 ?_
          exact xJ.lreturn (o_VectorSolverModel_divided 48 rfl) rfl h
        · replace h := h.2 z
          refine xJ.lconst (v := 1) (o_VectorSolverModel_divided 45 rfl) (by decide) ?_
          refine xJ.goto (tgt := 93) (o_VectorSolverModel_divided 46 rfl) (by decide) ?_
          exact xJ.lreturn (o_VectorSolverModel_divided 48 rfl) rfl h
      · replace h := h.2 z
        refine xJ.lload (o_VectorSolverModel_divided 39 rfl) rfl ?_
        refine xJ.goto (tgt := 93) (o_VectorSolverModel_divided 40 rfl) (by decide) ?_
        exact xJ.lreturn (o_VectorSolverModel_divided 48 rfl) rfl h
  · replace h := h.2 z
    refine xJ.lload_n (o_VectorSolverModel_divided 3 rfl) rfl ?_
    refine xJ.lconst (v := 0) (o_VectorSolverModel_divided 4 rfl) (by decide) ?_
    refine xJ.lcmp (o_VectorSolverModel_divided 5 rfl) ?_
    refine xJ.if_ne (tgt := 28) (o_VectorSolverModel_divided 6 rfl) (by decide) (fun z => ?_) (fun z => ?_)
    · replace h := h.1 z
      refine xJ.lload_n (o_VectorSolverModel_divided 14 rfl) rfl ?_
      refine xJ.lload_n (o_VectorSolverModel_divided 15 rfl) rfl ?_
      refine xJ.iload_n (o_VectorSolverModel_divided 16 rfl) rfl ?_
      refine xJ.bipush (v := 19) (o_VectorSolverModel_divided 17 rfl) (by decide) ?_
      refine xJ.icmp_ne (tgt := 40) (o_VectorSolverModel_divided 18 rfl) (by decide) (fun z => ?_) (fun z => ?_)
      · replace h := h.1 z
        refine xJ.iconst (v := 0) (o_VectorSolverModel_divided 21 rfl) (by decide) ?_
        exact xJ.lvs (by exact trivial) (sw_VectorSolverModel_divided_41 h)
      · replace h := h.2 z
        refine xJ.iconst (v := 1) (o_VectorSolverModel_divided 19 rfl) (by decide) ?_
        refine xJ.goto (tgt := 41) (o_VectorSolverModel_divided 20 rfl) (by decide) ?_
        exact xJ.lvs (by exact trivial) (sw_VectorSolverModel_divided_41 h)
    · replace h := h.2 z
      refine xJ.iload_n (o_VectorSolverModel_divided 7 rfl) rfl ?_
      refine xJ.bipush (v := 18) (o_VectorSolverModel_divided 8 rfl) (by decide) ?_
      refine xJ.icmp_ne (tgt := 24) (o_VectorSolverModel_divided 9 rfl) (by decide) (fun z => ?_) (fun z => ?_)
      · replace h := h.1 z
        refine xJ.lload_n (o_VectorSolverModel_divided 12 rfl) rfl ?_
        refine xJ.goto (tgt := 44) (o_VectorSolverModel_divided 13 rfl) (by decide) ?_
        exact xJ.lreturn (o_VectorSolverModel_divided 23 rfl) rfl h
      · replace h := h.2 z
        refine xJ.ldc2 (v := (-1)) (o_VectorSolverModel_divided 10 rfl) k_VectorSolverModel_335 ?_
        refine xJ.goto (tgt := 44) (o_VectorSolverModel_divided 11 rfl) (by decide) ?_
        exact xJ.lreturn (o_VectorSolverModel_divided 23 rfl) rfl h
def w_VectorSolverModel_shifted_16 (Q : xO → xS → Prop) (a0 : Int32) (a3 : Int64) (a5 : Int32) (t0 : Int64) (σ : xS) : Prop :=
  wp_VectorSolverModel_isBelow (xqi (fun r2 u1 => ((¬ r2 = 0 → ((¬ a0 = 22 → ((¬ a0 = 24 → Q (.inl (some (.long (jlushr t0 a3.toInt32)))) u1) ∧ (a0 = 24 → Q (.inl (some (.long (jlshr t0 a3.toInt32)))) u1))) ∧ (a0 = 22 → Q (.inl (some (.long (jlshl t0 a3.toInt32)))) u1))) ∧ (r2 = 0 → ((0 ≤ (lg_cmp t0 0) → Q (.inl (some (.long 0))) u1) ∧ (¬ 0 ≤ (lg_cmp t0 0) → ((¬ a0 = 24 → Q (.inl (some (.long 0))) u1) ∧ (a0 = 24 → Q (.inl (some (.long (-1)))) u1))))))) (fun n u => Q (.inr n) u)) σ a3 a5.toInt64
def wp_VectorSolverModel_shifted (Q : xO → xS → Prop) (σ : xS) (a0 : Int32) (a1 : Int64) (a3 : Int64) (a5 : Int32) : Prop :=
  ((¬ a0 = 24 → w_VectorSolverModel_shifted_16 Q a0 a3 a5 a1 σ) ∧ (a0 = 24 → wp_VectorSolverModel_signed (xql (fun r4 u3 => w_VectorSolverModel_shifted_16 Q a0 a3 a5 r4 u3) (fun n u => Q (.inr n) u)) σ a1 a5))
set_option maxRecDepth 20000 in
theorem sw_VectorSolverModel_shifted_16 {γ : xG1} {d b0 : Nat} {Q : xO → xS → Prop} {a0 : Int32} {a3 : Int64} {a5 : Int32} {t0 : Int64} {σ : xS} (h : w_VectorSolverModel_shifted_16 Q a0 a3 a5 t0 σ) : xJ (SHP, γ) Y_VectorSolverModel_shifted (d + 1) b0 16 [(0, .int a0), (3, .long a3), (5, .int a5)] [.long t0] σ Q := by
  refine xJ.lstore (o_VectorSolverModel_shifted 8 rfl) (by decide) ?_
  refine xJ.lload_n (o_VectorSolverModel_shifted 9 rfl) rfl ?_
  refine xJ.iload (o_VectorSolverModel_shifted 10 rfl) rfl ?_
  refine xJ.i2l (o_VectorSolverModel_shifted 11 rfl) rfl ?_
  refine xJ.callS (Y' := Y_VectorSolverModel_isBelow) (o_VectorSolverModel_shifted 12 rfl) m_VectorSolverModel_339 y_VectorSolverModel_isBelow st_VectorSolverModel_isBelow (s_VectorSolverModel_isBelow h) rfl rfl (Nat.le_of_ble_eq_true rfl) (fun _ hx => by cases hx) (fun v u q => ?_) (fun n u q => q)
  obtain ⟨r, rfl, h⟩ := xqi_get q
  refine xJ.if_ne (tgt := 49) (o_VectorSolverModel_shifted 13 rfl) (by decide) (fun z => ?_) (fun z => ?_)
  · replace h := h.1 z
    refine xJ.iload_n (o_VectorSolverModel_shifted 25 rfl) rfl ?_
    refine xJ.bipush (v := 22) (o_VectorSolverModel_shifted 26 rfl) (by decide) ?_
    refine xJ.icmp_ne (tgt := 63) (o_VectorSolverModel_shifted 27 rfl) (by decide) (fun z => ?_) (fun z => ?_)
    · replace h := h.1 z
      refine xJ.iload_n (o_VectorSolverModel_shifted 33 rfl) rfl ?_
      refine xJ.bipush (v := 24) (o_VectorSolverModel_shifted 34 rfl) (by decide) ?_
      refine xJ.icmp_ne (tgt := 77) (o_VectorSolverModel_shifted 35 rfl) (by decide) (fun z => ?_) (fun z => ?_)
      · replace h := h.1 z
        refine xJ.lload (o_VectorSolverModel_shifted 41 rfl) rfl ?_
        refine xJ.lload_n (o_VectorSolverModel_shifted 42 rfl) rfl ?_
        refine xJ.l2i (o_VectorSolverModel_shifted 43 rfl) rfl ?_
        refine xJ.lushr (o_VectorSolverModel_shifted 44 rfl) rfl ?_
        exact xJ.lreturn (o_VectorSolverModel_shifted 45 rfl) rfl h
      · replace h := h.2 z
        refine xJ.lload (o_VectorSolverModel_shifted 36 rfl) rfl ?_
        refine xJ.lload_n (o_VectorSolverModel_shifted 37 rfl) rfl ?_
        refine xJ.l2i (o_VectorSolverModel_shifted 38 rfl) rfl ?_
        refine xJ.lshr (o_VectorSolverModel_shifted 39 rfl) rfl ?_
        refine xJ.goto (tgt := 82) (o_VectorSolverModel_shifted 40 rfl) (by decide) ?_
        exact xJ.lreturn (o_VectorSolverModel_shifted 45 rfl) rfl h
    · replace h := h.2 z
      refine xJ.lload (o_VectorSolverModel_shifted 28 rfl) rfl ?_
      refine xJ.lload_n (o_VectorSolverModel_shifted 29 rfl) rfl ?_
      refine xJ.l2i (o_VectorSolverModel_shifted 30 rfl) rfl ?_
      refine xJ.lshl (o_VectorSolverModel_shifted 31 rfl) rfl ?_
      refine xJ.goto (tgt := 82) (o_VectorSolverModel_shifted 32 rfl) (by decide) ?_
      exact xJ.lreturn (o_VectorSolverModel_shifted 45 rfl) rfl h
  · replace h := h.2 z
    refine xJ.lload (o_VectorSolverModel_shifted 14 rfl) rfl ?_
    refine xJ.lconst (v := 0) (o_VectorSolverModel_shifted 15 rfl) (by decide) ?_
    refine xJ.lcmp (o_VectorSolverModel_shifted 16 rfl) ?_
    refine xJ.if_ge (tgt := 47) (o_VectorSolverModel_shifted 17 rfl) (by decide) (fun z => ?_) (fun z => ?_)
    · replace h := h.1 z
      refine xJ.lconst (v := 0) (o_VectorSolverModel_shifted 23 rfl) (by decide) ?_
      exact xJ.lreturn (o_VectorSolverModel_shifted 24 rfl) rfl h
    · replace h := h.2 z
      refine xJ.iload_n (o_VectorSolverModel_shifted 18 rfl) rfl ?_
      refine xJ.bipush (v := 24) (o_VectorSolverModel_shifted 19 rfl) (by decide) ?_
      refine xJ.icmp_ne (tgt := 47) (o_VectorSolverModel_shifted 20 rfl) (by decide) (fun z => ?_) (fun z => ?_)
      · replace h := h.1 z
        refine xJ.lconst (v := 0) (o_VectorSolverModel_shifted 23 rfl) (by decide) ?_
        exact xJ.lreturn (o_VectorSolverModel_shifted 24 rfl) rfl h
      · replace h := h.2 z
        refine xJ.ldc2 (v := (-1)) (o_VectorSolverModel_shifted 21 rfl) k_VectorSolverModel_335 ?_
        refine xJ.goto (tgt := 48) (o_VectorSolverModel_shifted 22 rfl) (by decide) ?_
        exact xJ.lreturn (o_VectorSolverModel_shifted 24 rfl) rfl h
set_option maxRecDepth 20000 in
theorem s_VectorSolverModel_shifted {γ : xG1} {d : Nat} {Q : xO → xS → Prop} {σ : xS} {a0 : Int32} {a1 : Int64} {a3 : Int64} {a5 : Int32} (h : wp_VectorSolverModel_shifted Q σ a0 a1 a3 a5) : xM (SHP, γ) Y_VectorSolverModel_shifted (d + 1) [.int a0, .long a1, .long a3, .int a5] σ Q := by
  refine xM.of (by decide) (Nat.le_of_ble_eq_true rfl) ?_
  refine xJ.iload_n (o_VectorSolverModel_shifted 0 rfl) rfl ?_
  refine xJ.bipush (v := 24) (o_VectorSolverModel_shifted 1 rfl) (by decide) ?_
  refine xJ.icmp_ne (tgt := 15) (o_VectorSolverModel_shifted 2 rfl) (by decide) (fun z => ?_) (fun z => ?_)
  · replace h := h.1 z
    refine xJ.lload_n (o_VectorSolverModel_shifted 7 rfl) rfl ?_
    exact xJ.lvs (by exact ⟨rfl, rfl, rfl, trivial⟩) (sw_VectorSolverModel_shifted_16 h)
  · replace h := h.2 z
    refine xJ.lload_n (o_VectorSolverModel_shifted 3 rfl) rfl ?_
    refine xJ.iload (o_VectorSolverModel_shifted 4 rfl) rfl ?_
    refine xJ.callS (Y' := Y_VectorSolverModel_signed) (o_VectorSolverModel_shifted 5 rfl) m_VectorSolverModel_347 y_VectorSolverModel_signed st_VectorSolverModel_signed (s_VectorSolverModel_signed h) rfl rfl (Nat.le_of_ble_eq_true rfl) (fun _ hx => by cases hx) (fun v u q => ?_) (fun n u q => q)
    obtain ⟨r, rfl, h⟩ := xql_get q
    refine xJ.goto (tgt := 16) (o_VectorSolverModel_shifted 6 rfl) (by decide) ?_
    exact xJ.lvs (by exact ⟨rfl, rfl, rfl, trivial⟩) (sw_VectorSolverModel_shifted_16 h)
theorem sc_VectorSolverModel_both_1 {x : Int32} {P : Nat → Prop} (k0 : x = 3 ∨ x = 12 → P 92) (k1 : x = 4 ∨ x = 13 → P 96) (k2 : x = 5 ∨ x = 14 → P 100) (k3 : x = 15 → P 104) (k4 : x = 16 → P 108) (k5 : x = 17 → P 112) (k6 : x = 18 ∨ x = 19 ∨ x = 20 ∨ x = 21 → P 116) (kd : ¬ x = 3 ∧ ¬ x = 4 ∧ ¬ x = 5 ∧ ¬ x = 12 ∧ ¬ x = 13 ∧ ¬ x = 14 ∧ ¬ x = 15 ∧ ¬ x = 16 ∧ ¬ x = 17 ∧ ¬ x = 18 ∧ ¬ x = 19 ∧ ¬ x = 20 ∧ ¬ x = 21 → P 125) : ∃ t : Nat, xdst 1 124 3 21 #[91, 95, 99, 124, 124, 124, 124, 124, 124, 91, 95, 99, 103, 107, 111, 115, 115, 115, 115] x = (t : Int) ∧ P t := by
  by_cases h0_0 : x = 3
  · subst h0_0; exact ⟨92, by decide, k0 (Or.inl rfl)⟩
  by_cases h0_1 : x = 12
  · subst h0_1; exact ⟨92, by decide, k0 (Or.inr (rfl))⟩
  by_cases h1_0 : x = 4
  · subst h1_0; exact ⟨96, by decide, k1 (Or.inl rfl)⟩
  by_cases h1_1 : x = 13
  · subst h1_1; exact ⟨96, by decide, k1 (Or.inr (rfl))⟩
  by_cases h2_0 : x = 5
  · subst h2_0; exact ⟨100, by decide, k2 (Or.inl rfl)⟩
  by_cases h2_1 : x = 14
  · subst h2_1; exact ⟨100, by decide, k2 (Or.inr (rfl))⟩
  by_cases h3_0 : x = 15
  · subst h3_0; exact ⟨104, by decide, k3 (rfl)⟩
  by_cases h4_0 : x = 16
  · subst h4_0; exact ⟨108, by decide, k4 (rfl)⟩
  by_cases h5_0 : x = 17
  · subst h5_0; exact ⟨112, by decide, k5 (rfl)⟩
  by_cases h6_0 : x = 18
  · subst h6_0; exact ⟨116, by decide, k6 (Or.inl rfl)⟩
  by_cases h6_1 : x = 19
  · subst h6_1; exact ⟨116, by decide, k6 (Or.inr (Or.inl rfl))⟩
  by_cases h6_2 : x = 20
  · subst h6_2; exact ⟨116, by decide, k6 (Or.inr (Or.inr (Or.inl rfl)))⟩
  by_cases h6_3 : x = 21
  · subst h6_3; exact ⟨116, by decide, k6 (Or.inr (Or.inr (Or.inr (rfl))))⟩
  have nh0_0 := lv_neT h0_0 (show (3 : Int32).toInt = 3 by decide)
  have nh0_1 := lv_neT h0_1 (show (12 : Int32).toInt = 12 by decide)
  have nh1_0 := lv_neT h1_0 (show (4 : Int32).toInt = 4 by decide)
  have nh1_1 := lv_neT h1_1 (show (13 : Int32).toInt = 13 by decide)
  have nh2_0 := lv_neT h2_0 (show (5 : Int32).toInt = 5 by decide)
  have nh2_1 := lv_neT h2_1 (show (14 : Int32).toInt = 14 by decide)
  have nh3_0 := lv_neT h3_0 (show (15 : Int32).toInt = 15 by decide)
  have nh4_0 := lv_neT h4_0 (show (16 : Int32).toInt = 16 by decide)
  have nh5_0 := lv_neT h5_0 (show (17 : Int32).toInt = 17 by decide)
  have nh6_0 := lv_neT h6_0 (show (18 : Int32).toInt = 18 by decide)
  have nh6_1 := lv_neT h6_1 (show (19 : Int32).toInt = 19 by decide)
  have nh6_2 := lv_neT h6_2 (show (20 : Int32).toInt = 20 by decide)
  have nh6_3 := lv_neT h6_3 (show (21 : Int32).toInt = 21 by decide)
  refine ⟨125, ?_, kd ⟨h0_0, h1_0, h2_0, h0_1, h1_1, h2_1, h3_0, h4_0, h5_0, h6_0, h6_1, h6_2, h6_3⟩⟩
  by_cases d3 : x = 6
  · subst d3; decide
  by_cases d4 : x = 7
  · subst d4; decide
  by_cases d5 : x = 8
  · subst d5; decide
  by_cases d6 : x = 9
  · subst d6; decide
  by_cases d7 : x = 10
  · subst d7; decide
  by_cases d8 : x = 11
  · subst d8; decide
  have nd3 := lv_neT d3 (show (6 : Int32).toInt = 6 by decide)
  have nd4 := lv_neT d4 (show (7 : Int32).toInt = 7 by decide)
  have nd5 := lv_neT d5 (show (8 : Int32).toInt = 8 by decide)
  have nd6 := lv_neT d6 (show (9 : Int32).toInt = 9 by decide)
  have nd7 := lv_neT d7 (show (10 : Int32).toInt = 10 by decide)
  have nd8 := lv_neT d8 (show (11 : Int32).toInt = 11 by decide)
  exact xdst_out (by omega) rfl
def wp_VectorSolverModel_both (Q : xO → xS → Prop) (σ : xS) (a0 : Int32) (a1 : Int64) (a3 : Int64) (a5 : Int32) : Prop :=
  ((a0 = 3 ∨ a0 = 12 → Q (.inl (some (.long (a1 &&& a3)))) σ) ∧ (a0 = 4 ∨ a0 = 13 → Q (.inl (some (.long (a1 ||| a3)))) σ) ∧ (a0 = 5 ∨ a0 = 14 → Q (.inl (some (.long (a1 ^^^ a3)))) σ) ∧ (a0 = 15 → Q (.inl (some (.long (a1 + a3)))) σ) ∧ (a0 = 16 → Q (.inl (some (.long (a1 * a3)))) σ) ∧ (a0 = 17 → Q (.inl (some (.long (a1 - a3)))) σ) ∧ (a0 = 18 ∨ a0 = 19 ∨ a0 = 20 ∨ a0 = 21 → wp_VectorSolverModel_divided (xql (fun r2 u1 => Q (.inl (some (.long r2))) u1) (fun n u => Q (.inr n) u)) σ a0 a1 a3 a5) ∧ (¬ a0 = 3 ∧ ¬ a0 = 4 ∧ ¬ a0 = 5 ∧ ¬ a0 = 12 ∧ ¬ a0 = 13 ∧ ¬ a0 = 14 ∧ ¬ a0 = 15 ∧ ¬ a0 = 16 ∧ ¬ a0 = 17 ∧ ¬ a0 = 18 ∧ ¬ a0 = 19 ∧ ¬ a0 = 20 ∧ ¬ a0 = 21 → wp_VectorSolverModel_shifted (xql (fun r4 u3 => Q (.inl (some (.long r4))) u3) (fun n u => Q (.inr n) u)) σ a0 a1 a3 a5))
set_option maxRecDepth 20000 in
theorem s_VectorSolverModel_both {γ : xG1} {d : Nat} {Q : xO → xS → Prop} {σ : xS} {a0 : Int32} {a1 : Int64} {a3 : Int64} {a5 : Int32} (h : wp_VectorSolverModel_both Q σ a0 a1 a3 a5) : xM (SHP, γ) Y_VectorSolverModel_both (d + 3) [.int a0, .long a1, .long a3, .int a5] σ Q := by
  refine xM.of (by decide) (Nat.le_of_ble_eq_true rfl) ?_
  refine xJ.iload_n (o_VectorSolverModel_both 0 rfl) rfl ?_
  refine xJ.tsw (o_VectorSolverModel_both 1 rfl) (by decide) (sc_VectorSolverModel_both_1 (fun z => ?_) (fun z => ?_) (fun z => ?_) (fun z => ?_) (fun z => ?_) (fun z => ?_) (fun z => ?_) (fun z => ?_))
  · replace h := h.1 z
    refine xJ.lload_n (o_VectorSolverModel_both 2 rfl) rfl ?_
    refine xJ.lload_n (o_VectorSolverModel_both 3 rfl) rfl ?_
    refine xJ.land (o_VectorSolverModel_both 4 rfl) ?_
    exact xJ.lreturn (o_VectorSolverModel_both 5 rfl) rfl h
  · replace h := h.2.1 z
    refine xJ.lload_n (o_VectorSolverModel_both 6 rfl) rfl ?_
    refine xJ.lload_n (o_VectorSolverModel_both 7 rfl) rfl ?_
    refine xJ.lor (o_VectorSolverModel_both 8 rfl) ?_
    exact xJ.lreturn (o_VectorSolverModel_both 9 rfl) rfl h
  · replace h := h.2.2.1 z
    refine xJ.lload_n (o_VectorSolverModel_both 10 rfl) rfl ?_
    refine xJ.lload_n (o_VectorSolverModel_both 11 rfl) rfl ?_
    refine xJ.lxor (o_VectorSolverModel_both 12 rfl) ?_
    exact xJ.lreturn (o_VectorSolverModel_both 13 rfl) rfl h
  · replace h := h.2.2.2.1 z
    refine xJ.lload_n (o_VectorSolverModel_both 14 rfl) rfl ?_
    refine xJ.lload_n (o_VectorSolverModel_both 15 rfl) rfl ?_
    refine xJ.ladd (o_VectorSolverModel_both 16 rfl) ?_
    exact xJ.lreturn (o_VectorSolverModel_both 17 rfl) rfl h
  · replace h := h.2.2.2.2.1 z
    refine xJ.lload_n (o_VectorSolverModel_both 18 rfl) rfl ?_
    refine xJ.lload_n (o_VectorSolverModel_both 19 rfl) rfl ?_
    refine xJ.lmul (o_VectorSolverModel_both 20 rfl) ?_
    exact xJ.lreturn (o_VectorSolverModel_both 21 rfl) rfl h
  · replace h := h.2.2.2.2.2.1 z
    refine xJ.lload_n (o_VectorSolverModel_both 22 rfl) rfl ?_
    refine xJ.lload_n (o_VectorSolverModel_both 23 rfl) rfl ?_
    refine xJ.lsub (o_VectorSolverModel_both 24 rfl) ?_
    exact xJ.lreturn (o_VectorSolverModel_both 25 rfl) rfl h
  · replace h := h.2.2.2.2.2.2.1 z
    refine xJ.iload_n (o_VectorSolverModel_both 26 rfl) rfl ?_
    refine xJ.lload_n (o_VectorSolverModel_both 27 rfl) rfl ?_
    refine xJ.lload_n (o_VectorSolverModel_both 28 rfl) rfl ?_
    refine xJ.iload (o_VectorSolverModel_both 29 rfl) rfl ?_
    refine xJ.callS (Y' := Y_VectorSolverModel_divided) (o_VectorSolverModel_both 30 rfl) m_VectorSolverModel_351 y_VectorSolverModel_divided st_VectorSolverModel_divided (s_VectorSolverModel_divided h) rfl rfl (Nat.le_of_ble_eq_true rfl) (fun _ hx => by cases hx) (fun v u q => ?_) (fun n u q => q)
    obtain ⟨r, rfl, h⟩ := xql_get q
    exact xJ.lreturn (o_VectorSolverModel_both 31 rfl) rfl h
  · replace h := h.2.2.2.2.2.2.2 z
    refine xJ.iload_n (o_VectorSolverModel_both 32 rfl) rfl ?_
    refine xJ.lload_n (o_VectorSolverModel_both 33 rfl) rfl ?_
    refine xJ.lload_n (o_VectorSolverModel_both 34 rfl) rfl ?_
    refine xJ.iload (o_VectorSolverModel_both 35 rfl) rfl ?_
    refine xJ.callS (Y' := Y_VectorSolverModel_shifted) (o_VectorSolverModel_both 36 rfl) m_VectorSolverModel_355 y_VectorSolverModel_shifted st_VectorSolverModel_shifted (s_VectorSolverModel_shifted h) rfl rfl (Nat.le_of_ble_eq_true rfl) (fun _ hx => by cases hx) (fun v u q => ?_) (fun n u q => q)
    obtain ⟨r, rfl, h⟩ := xql_get q
    exact xJ.lreturn (o_VectorSolverModel_both 37 rfl) rfl h
def w_VectorSolverModel_result_145 (Q : xO → xS → Prop) (t1 : Int32) (t2 : Int32) (σ : xS) : Prop :=
  wp_VectorSolverModel_alike (xqi (fun r8 u7 => ((r8 = 0 → Q (.inl (some (.long 0))) u7) ∧ (¬ r8 = 0 → Q (.inl (some (.long 1))) u7))) (fun n u => Q (.inr n) u)) σ t1 t2
def w_VectorSolverModel_result_132 (Q : xO → xS → Prop) (a1 : Int32) (a2 : Int32) (σ : xS) : Prop :=
  ((¬ a2 = 8 → w_VectorSolverModel_result_145 Q a1 0 σ) ∧ (a2 = 8 → w_VectorSolverModel_result_145 Q a1 1 σ))
def w_VectorSolverModel_result_252 (Q : xO → xS → Prop) : Nat → Int32 → Int64 → Int32 → xS → Prop
  | 0 => fun _ _ _ _ => False
  | n + 1 => fun a1 a6 a8 σ =>
    (vp_in a1 2000 ∧ (((xi σ 60 a1.toNatClampNeg) ≤ a8 → Q (.inl (some (.long a6))) σ) ∧ (¬ (xi σ 60 a1.toNatClampNeg) ≤ a8 → wp_VectorSolverModel_of (xqi (fun r16 u15 => (vp_in r16 2000 ∧ wp_VectorSolverModel_valueOf (xql (fun r18 u17 => (∀ x19 : Int64, x19 = ((jlshl a6 (xi u15 58 r16.toNatClampNeg)) ||| r18) → (∀ x20 : Int32, x20 = a8 + 1 → w_VectorSolverModel_result_252 Q n a1 x19 x20 u17))) (fun n u => Q (.inr n) u)) u15 a1 a8)) (fun n u => Q (.inr n) u)) σ a1 a8)))
def w_VectorSolverModel_result_170 (Q : xO → xS → Prop) : Nat → Int32 → Int32 → Int32 → Int64 → Int32 → xS → Prop
  | 0 => fun _ _ _ _ _ _ => False
  | n + 1 => fun a1 a2 a3 a6 a8 σ =>
    (vp_in a1 2000 ∧ (((xi σ 60 a1.toNatClampNeg) ≤ a8 → Q (.inl (some (.long a6))) σ) ∧ (¬ (xi σ 60 a1.toNatClampNeg) ≤ a8 → wp_VectorSolverModel_valueOf (xql (fun r26 u25 => wp_VectorSolverModel_both (xql (fun r28 u27 => wp_VectorSolverModel_mask (xql (fun r30 u29 => (∀ x31 : Int64, x31 = (r28 &&& r30) → (∀ x32 : Int32, x32 = a8 + 1 → w_VectorSolverModel_result_170 Q n a1 a2 a3 x31 x32 u29))) (fun n u => Q (.inr n) u)) u27 a3) (fun n u => Q (.inr n) u)) u25 a2 a6 r26 a3) (fun n u => Q (.inr n) u)) σ a1 a8)))
def w_VectorSolverModel_result_86 (Q : xO → xS → Prop) : Nat → Int32 → Int64 → Int32 → xS → Prop
  | 0 => fun _ _ _ _ => False
  | n + 1 => fun a1 a6 a8 σ =>
    ((a8 < 0 → Q (.inl (some (.long a6))) σ) ∧ (¬ a8 < 0 → wp_VectorSolverModel_valueOf (xql (fun r37 u36 => ((¬ (lg_cmp r37 1) = 0 → (∀ x38 : Int32, x38 = a8 + (-1) → w_VectorSolverModel_result_86 Q n a1 1 x38 u36)) ∧ ((lg_cmp r37 1) = 0 → (∀ x39 : Int32, x39 = a8 + (-1) → w_VectorSolverModel_result_86 Q n a1 a6 x39 u36)))) (fun n u => Q (.inr n) u)) σ a1 a8))
def wp_VectorSolverModel_result (Q : xO → xS → Prop) (σ : xS) (a1 : Int32) : Prop :=
  (vp_in a1 2000 ∧ (∀ x1 : Int32, x1 = (xi σ 56 a1.toNatClampNeg) → wp_VectorSolverModel_of (xqi (fun r3 u2 => (vp_in r3 2000 ∧ (∀ x4 : Int32, x4 = (xi u2 58 r3.toNatClampNeg) → wp_VectorSolverModel_valueOf (xql (fun r6 u5 => ((x1 = 2 → Q (.inl (some (.long (r6 ^^^ (-1))))) u5) ∧ (¬ x1 = 2 → ((¬ x1 = 10 → ((¬ x1 = 11 → ((¬ x1 = 6 → ((x1 = 8 → w_VectorSolverModel_result_132 Q a1 x1 u5) ∧ (¬ x1 = 8 → ((¬ x1 = 9 → ((25 ≤ x1 → ((33 ≤ x1 → ((¬ x1 = 33 → ((¬ x1 = 34 → ((¬ x1 = 36 → ((¬ x1 = 37 → wp_VectorSolverModel_signed (xql (fun r10 u9 => Q (.inl (some (.long r10))) u9) (fun n u => Q (.inr n) u)) u5 r6 x4) ∧ (x1 = 37 → Q (.inl (some (.long r6))) u5))) ∧ (x1 = 36 → (vp_in a1 2000 ∧ Q (.inl (some (.long (jlushr r6 (xi u5 62 a1.toNatClampNeg))))) u5)))) ∧ (x1 = 34 → wp_VectorSolverModel_of (xqi (fun r12 u11 => wp_VectorSolverModel_valueOf (xql (fun r14 u13 => (vp_in ((64 * r12) + r14.toInt32) 128000 ∧ Q (.inl (some (.long (xl u13 81 ((64 * r12) + r14.toInt32).toNatClampNeg)))) u13)) (fun n u => Q (.inr n) u)) u11 a1 1) (fun n u => Q (.inr n) u)) u5 a1 0))) ∧ (x1 = 33 → ∃ m, w_VectorSolverModel_result_252 Q m a1 r6 1 u5))) ∧ (¬ 33 ≤ x1 → wp_VectorSolverModel_valueOf (xql (fun r22 u21 => wp_VectorSolverModel_compares (xqi (fun r24 u23 => ((r24 = 0 → Q (.inl (some (.long 0))) u23) ∧ (¬ r24 = 0 → Q (.inl (some (.long 1))) u23))) (fun n u => Q (.inr n) u)) u21 x1 r6 r22 x4) (fun n u => Q (.inr n) u)) u5 a1 1))) ∧ (¬ 25 ≤ x1 → ∃ m, w_VectorSolverModel_result_170 Q m a1 x1 x4 r6 1 u5))) ∧ (x1 = 9 → w_VectorSolverModel_result_132 Q a1 x1 u5))))) ∧ (x1 = 6 → (vp_in a1 2000 ∧ wp_VectorSolverModel_valueOf (xql (fun r34 u33 => (vp_in a1 2000 ∧ (∀ x35 : Int32, x35 = ((xi u33 60 a1.toNatClampNeg) - 2) → ∃ m, w_VectorSolverModel_result_86 Q m a1 r34 x35 u33))) (fun n u => Q (.inr n) u)) u5 a1 ((xi u5 60 a1.toNatClampNeg) - 1))))) ∧ (x1 = 11 → Q (.inl (some (.long (-r6)))) u5))) ∧ (x1 = 10 → Q (.inl (some (.long (r6 ^^^ (-1))))) u5))))) (fun n u => Q (.inr n) u)) u2 a1 0))) (fun n u => Q (.inr n) u)) σ a1 0))
set_option maxRecDepth 20000 in
theorem sw_VectorSolverModel_result_145 {γ : xG1} {d b0 : Nat} {Q : xO → xS → Prop} {t1 : Int32} {t2 : Int32} {σ : xS} (h : w_VectorSolverModel_result_145 Q t1 t2 σ) : xJ (SHP, γ) Y_VectorSolverModel_result (d + 4) b0 145 [] [.int t2, .int t1, .ref 50] σ Q := by
  refine xJ.callV (Y' := Y_VectorSolverModel_alike) (o_VectorSolverModel_result 85 rfl) m_VectorSolverModel_368 y_VectorSolverModel_alike im_VectorSolverModel_alike se_VectorSolverModel_alike rfl rfl (s_VectorSolverModel_alike h) rfl rfl (Nat.le_of_ble_eq_true rfl) (fun _ hx => by cases hx) (fun v u q => ?_) (fun n u q => q)
  obtain ⟨r, rfl, h⟩ := xqi_get q
  refine xJ.if_eq (tgt := 155) (o_VectorSolverModel_result 86 rfl) (by decide) (fun z => ?_) (fun z => ?_)
  · replace h := h.1 z
    refine xJ.lconst (v := 0) (o_VectorSolverModel_result 89 rfl) (by decide) ?_
    exact xJ.lreturn (o_VectorSolverModel_result 90 rfl) rfl h
  · replace h := h.2 z
    refine xJ.lconst (v := 1) (o_VectorSolverModel_result 87 rfl) (by decide) ?_
    refine xJ.goto (tgt := 156) (o_VectorSolverModel_result 88 rfl) (by decide) ?_
    exact xJ.lreturn (o_VectorSolverModel_result 90 rfl) rfl h
set_option maxRecDepth 20000 in
theorem sw_VectorSolverModel_result_132 {γ : xG1} {d b0 : Nat} {Q : xO → xS → Prop} {a1 : Int32} {a2 : Int32} {σ : xS} (h : w_VectorSolverModel_result_132 Q a1 a2 σ) : xJ (SHP, γ) Y_VectorSolverModel_result (d + 4) b0 132 [(0, .ref 50), (1, .int a1), (2, .int a2)] [] σ Q := by
  refine xJ.aload_n (o_VectorSolverModel_result 77 rfl) rfl ?_
  refine xJ.iload_n (o_VectorSolverModel_result 78 rfl) rfl ?_
  refine xJ.iload_n (o_VectorSolverModel_result 79 rfl) rfl ?_
  refine xJ.bipush (v := 8) (o_VectorSolverModel_result 80 rfl) (by decide) ?_
  refine xJ.icmp_ne (tgt := 144) (o_VectorSolverModel_result 81 rfl) (by decide) (fun z => ?_) (fun z => ?_)
  · replace h := h.1 z
    refine xJ.iconst (v := 0) (o_VectorSolverModel_result 84 rfl) (by decide) ?_
    exact xJ.lvs (by exact trivial) (sw_VectorSolverModel_result_145 h)
  · replace h := h.2 z
    refine xJ.iconst (v := 1) (o_VectorSolverModel_result 82 rfl) (by decide) ?_
    refine xJ.goto (tgt := 145) (o_VectorSolverModel_result 83 rfl) (by decide) ?_
    exact xJ.lvs (by exact trivial) (sw_VectorSolverModel_result_145 h)
set_option maxRecDepth 20000 in
theorem sw_VectorSolverModel_result_252 {γ : xG1} {d b0 : Nat} {Q : xO → xS → Prop} : ∀ (n : Nat) (a1 : Int32) (a6 : Int64) (a8 : Int32) (σ : xS), w_VectorSolverModel_result_252 Q n a1 a6 a8 σ → xJ (SHP, γ) Y_VectorSolverModel_result (d + 4) b0 252 [(0, .ref 50), (1, .int a1), (6, .long a6), (8, .int a8)] [] σ Q := by
  intro n
  induction n with
  | zero => intro a1 a6 a8 σ h; exact h.elim
  | succ n ih =>
    intro a1 a6 a8 σ h
    refine xJ.iload (o_VectorSolverModel_result 143 rfl) rfl ?_
    refine xJ.aload_n (o_VectorSolverModel_result 144 rfl) rfl ?_
    refine xJ.getfield (o_VectorSolverModel_result 145 rfl) f_VectorSolverModel_50 rfl rfl ?_
    refine xJ.iload_n (o_VectorSolverModel_result 146 rfl) rfl ?_
    refine xJ.iaload (o_VectorSolverModel_result 147 rfl) rfl h.1 ?_
    replace h := h.2
    refine xJ.icmp_ge (tgt := 294) (o_VectorSolverModel_result 148 rfl) (by decide) (fun z => ?_) (fun z => ?_)
    · replace h := h.1 z
      refine xJ.lload (o_VectorSolverModel_result 166 rfl) rfl ?_
      exact xJ.lreturn (o_VectorSolverModel_result 167 rfl) rfl h
    · replace h := h.2 z
      refine xJ.lload (o_VectorSolverModel_result 149 rfl) rfl ?_
      refine xJ.aload_n (o_VectorSolverModel_result 150 rfl) rfl ?_
      refine xJ.getfield (o_VectorSolverModel_result 151 rfl) f_VectorSolverModel_44 rfl rfl ?_
      refine xJ.aload_n (o_VectorSolverModel_result 152 rfl) rfl ?_
      refine xJ.iload_n (o_VectorSolverModel_result 153 rfl) rfl ?_
      refine xJ.iload (o_VectorSolverModel_result 154 rfl) rfl ?_
      refine xJ.callV (Y' := Y_VectorSolverModel_of) (o_VectorSolverModel_result 155 rfl) m_VectorSolverModel_358 y_VectorSolverModel_of im_VectorSolverModel_of se_VectorSolverModel_of rfl rfl (s_VectorSolverModel_of h) rfl rfl (Nat.le_of_ble_eq_true rfl) (fun _ hx => by cases hx) (fun v u q => ?_) (fun n u q => q)
      obtain ⟨r, rfl, h⟩ := xqi_get q
      refine xJ.iaload (o_VectorSolverModel_result 156 rfl) rfl h.1 ?_
      replace h := h.2
      refine xJ.lshl (o_VectorSolverModel_result 157 rfl) rfl ?_
      refine xJ.aload_n (o_VectorSolverModel_result 158 rfl) rfl ?_
      refine xJ.iload_n (o_VectorSolverModel_result 159 rfl) rfl ?_
      refine xJ.iload (o_VectorSolverModel_result 160 rfl) rfl ?_
      refine xJ.callV (Y' := Y_VectorSolverModel_valueOf) (o_VectorSolverModel_result 161 rfl) m_VectorSolverModel_364 y_VectorSolverModel_valueOf im_VectorSolverModel_valueOf se_VectorSolverModel_valueOf rfl rfl (s_VectorSolverModel_valueOf h) rfl rfl (Nat.le_of_ble_eq_true rfl) (fun _ hx => by cases hx) (fun v u q => ?_) (fun n u q => q)
      obtain ⟨r, rfl, h⟩ := xql_get q
      refine xJ.lor (o_VectorSolverModel_result 162 rfl) ?_
      refine xJ.lstore (o_VectorSolverModel_result 163 rfl) (by decide) ?_
      replace h := h _ rfl
      refine xJ.iincC (w := 1) (o_VectorSolverModel_result 164 rfl) rfl (by decide) (by decide) ?_
      replace h := h _ rfl
      refine xJ.goto (tgt := 252) (o_VectorSolverModel_result 165 rfl) (by decide) ?_
      exact xJ.lvs (by exact ⟨rfl, rfl, rfl, rfl, trivial⟩) (ih _ _ _ _ h)
set_option maxRecDepth 20000 in
theorem sw_VectorSolverModel_result_170 {γ : xG1} {d b0 : Nat} {Q : xO → xS → Prop} : ∀ (n : Nat) (a1 : Int32) (a2 : Int32) (a3 : Int32) (a6 : Int64) (a8 : Int32) (σ : xS), w_VectorSolverModel_result_170 Q n a1 a2 a3 a6 a8 σ → xJ (SHP, γ) Y_VectorSolverModel_result (d + 4) b0 170 [(0, .ref 50), (1, .int a1), (2, .int a2), (3, .int a3), (6, .long a6), (8, .int a8)] [] σ Q := by
  intro n
  induction n with
  | zero => intro a1 a2 a3 a6 a8 σ h; exact h.elim
  | succ n ih =>
    intro a1 a2 a3 a6 a8 σ h
    refine xJ.iload (o_VectorSolverModel_result 98 rfl) rfl ?_
    refine xJ.aload_n (o_VectorSolverModel_result 99 rfl) rfl ?_
    refine xJ.getfield (o_VectorSolverModel_result 100 rfl) f_VectorSolverModel_50 rfl rfl ?_
    refine xJ.iload_n (o_VectorSolverModel_result 101 rfl) rfl ?_
    refine xJ.iaload (o_VectorSolverModel_result 102 rfl) rfl h.1 ?_
    replace h := h.2
    refine xJ.icmp_ge (tgt := 208) (o_VectorSolverModel_result 103 rfl) (by decide) (fun z => ?_) (fun z => ?_)
    · replace h := h.1 z
      refine xJ.lload (o_VectorSolverModel_result 118 rfl) rfl ?_
      exact xJ.lreturn (o_VectorSolverModel_result 119 rfl) rfl h
    · replace h := h.2 z
      refine xJ.iload_n (o_VectorSolverModel_result 104 rfl) rfl ?_
      refine xJ.lload (o_VectorSolverModel_result 105 rfl) rfl ?_
      refine xJ.aload_n (o_VectorSolverModel_result 106 rfl) rfl ?_
      refine xJ.iload_n (o_VectorSolverModel_result 107 rfl) rfl ?_
      refine xJ.iload (o_VectorSolverModel_result 108 rfl) rfl ?_
      refine xJ.callV (Y' := Y_VectorSolverModel_valueOf) (o_VectorSolverModel_result 109 rfl) m_VectorSolverModel_364 y_VectorSolverModel_valueOf im_VectorSolverModel_valueOf se_VectorSolverModel_valueOf rfl rfl (s_VectorSolverModel_valueOf h) rfl rfl (Nat.le_of_ble_eq_true rfl) (fun _ hx => by cases hx) (fun v u q => ?_) (fun n u q => q)
      obtain ⟨r, rfl, h⟩ := xql_get q
      refine xJ.iload_n (o_VectorSolverModel_result 110 rfl) rfl ?_
      refine xJ.callS (Y' := Y_VectorSolverModel_both) (o_VectorSolverModel_result 111 rfl) m_VectorSolverModel_372 y_VectorSolverModel_both st_VectorSolverModel_both (s_VectorSolverModel_both h) rfl rfl (Nat.le_of_ble_eq_true rfl) (fun _ hx => by cases hx) (fun v u q => ?_) (fun n u q => q)
      obtain ⟨r, rfl, h⟩ := xql_get q
      refine xJ.iload_n (o_VectorSolverModel_result 112 rfl) rfl ?_
      refine xJ.callS (Y' := Y_VectorSolverModel_mask) (o_VectorSolverModel_result 113 rfl) m_VectorSolverModel_375 y_VectorSolverModel_mask st_VectorSolverModel_mask (s_VectorSolverModel_mask h) rfl rfl (Nat.le_of_ble_eq_true rfl) (fun _ hx => by cases hx) (fun v u q => ?_) (fun n u q => q)
      obtain ⟨r, rfl, h⟩ := xql_get q
      refine xJ.land (o_VectorSolverModel_result 114 rfl) ?_
      refine xJ.lstore (o_VectorSolverModel_result 115 rfl) (by decide) ?_
      replace h := h _ rfl
      refine xJ.iincC (w := 1) (o_VectorSolverModel_result 116 rfl) rfl (by decide) (by decide) ?_
      replace h := h _ rfl
      refine xJ.goto (tgt := 170) (o_VectorSolverModel_result 117 rfl) (by decide) ?_
      exact xJ.lvs (by exact ⟨rfl, rfl, rfl, rfl, rfl, rfl, trivial⟩) (ih _ _ _ _ _ _ h)
set_option maxRecDepth 20000 in
theorem sw_VectorSolverModel_result_86 {γ : xG1} {d b0 : Nat} {Q : xO → xS → Prop} : ∀ (n : Nat) (a1 : Int32) (a6 : Int64) (a8 : Int32) (σ : xS), w_VectorSolverModel_result_86 Q n a1 a6 a8 σ → xJ (SHP, γ) Y_VectorSolverModel_result (d + 4) b0 86 [(0, .ref 50), (1, .int a1), (6, .long a6), (8, .int a8)] [] σ Q := by
  intro n
  induction n with
  | zero => intro a1 a6 a8 σ h; exact h.elim
  | succ n ih =>
    intro a1 a6 a8 σ h
    refine xJ.iload (o_VectorSolverModel_result 54 rfl) rfl ?_
    refine xJ.if_lt (tgt := 117) (o_VectorSolverModel_result 55 rfl) (by decide) (fun z => ?_) (fun z => ?_)
    · replace h := h.1 z
      refine xJ.lload (o_VectorSolverModel_result 69 rfl) rfl ?_
      exact xJ.lreturn (o_VectorSolverModel_result 70 rfl) rfl h
    · replace h := h.2 z
      refine xJ.aload_n (o_VectorSolverModel_result 56 rfl) rfl ?_
      refine xJ.iload_n (o_VectorSolverModel_result 57 rfl) rfl ?_
      refine xJ.iload (o_VectorSolverModel_result 58 rfl) rfl ?_
      refine xJ.callV (Y' := Y_VectorSolverModel_valueOf) (o_VectorSolverModel_result 59 rfl) m_VectorSolverModel_364 y_VectorSolverModel_valueOf im_VectorSolverModel_valueOf se_VectorSolverModel_valueOf rfl rfl (s_VectorSolverModel_valueOf h) rfl rfl (Nat.le_of_ble_eq_true rfl) (fun _ hx => by cases hx) (fun v u q => ?_) (fun n u q => q)
      obtain ⟨r, rfl, h⟩ := xql_get q
      refine xJ.lconst (v := 1) (o_VectorSolverModel_result 60 rfl) (by decide) ?_
      refine xJ.lcmp (o_VectorSolverModel_result 61 rfl) ?_
      refine xJ.if_ne (tgt := 108) (o_VectorSolverModel_result 62 rfl) (by decide) (fun z => ?_) (fun z => ?_)
      · replace h := h.1 z
        refine xJ.lconst (v := 1) (o_VectorSolverModel_result 65 rfl) (by decide) ?_
        refine xJ.lstore (o_VectorSolverModel_result 66 rfl) (by decide) ?_
        refine xJ.iincC (w := (-1)) (o_VectorSolverModel_result 67 rfl) rfl (by decide) (by decide) ?_
        replace h := h _ rfl
        refine xJ.goto (tgt := 86) (o_VectorSolverModel_result 68 rfl) (by decide) ?_
        exact xJ.lvs (by exact ⟨rfl, rfl, rfl, rfl, trivial⟩) (ih _ _ _ _ h)
      · replace h := h.2 z
        refine xJ.lload (o_VectorSolverModel_result 63 rfl) rfl ?_
        refine xJ.goto (tgt := 109) (o_VectorSolverModel_result 64 rfl) (by decide) ?_
        refine xJ.lstore (o_VectorSolverModel_result 66 rfl) (by decide) ?_
        refine xJ.iincC (w := (-1)) (o_VectorSolverModel_result 67 rfl) rfl (by decide) (by decide) ?_
        replace h := h _ rfl
        refine xJ.goto (tgt := 86) (o_VectorSolverModel_result 68 rfl) (by decide) ?_
        exact xJ.lvs (by exact ⟨rfl, rfl, rfl, rfl, trivial⟩) (ih _ _ _ _ h)
set_option maxRecDepth 20000 in
theorem s_VectorSolverModel_result {γ : xG1} {d : Nat} {Q : xO → xS → Prop} {σ : xS} {a1 : Int32} (h : wp_VectorSolverModel_result Q σ a1) : xM (SHP, γ) Y_VectorSolverModel_result (d + 4) [.ref 50, .int a1] σ Q := by
  refine xM.of (by decide) (Nat.le_of_ble_eq_true rfl) ?_
  refine xJ.aload_n (o_VectorSolverModel_result 0 rfl) rfl ?_
  refine xJ.getfield (o_VectorSolverModel_result 1 rfl) f_VectorSolverModel_38 rfl rfl ?_
  refine xJ.iload_n (o_VectorSolverModel_result 2 rfl) rfl ?_
  refine xJ.iaload (o_VectorSolverModel_result 3 rfl) rfl h.1 ?_
  replace h := h.2
  refine xJ.istore_n (o_VectorSolverModel_result 4 rfl) (by decide) ?_
  replace h := h _ rfl
  refine xJ.aload_n (o_VectorSolverModel_result 5 rfl) rfl ?_
  refine xJ.getfield (o_VectorSolverModel_result 6 rfl) f_VectorSolverModel_44 rfl rfl ?_
  refine xJ.aload_n (o_VectorSolverModel_result 7 rfl) rfl ?_
  refine xJ.iload_n (o_VectorSolverModel_result 8 rfl) rfl ?_
  refine xJ.iconst (v := 0) (o_VectorSolverModel_result 9 rfl) (by decide) ?_
  refine xJ.callV (Y' := Y_VectorSolverModel_of) (o_VectorSolverModel_result 10 rfl) m_VectorSolverModel_358 y_VectorSolverModel_of im_VectorSolverModel_of se_VectorSolverModel_of rfl rfl (s_VectorSolverModel_of h) rfl rfl (Nat.le_of_ble_eq_true rfl) (fun _ hx => by cases hx) (fun v u q => ?_) (fun n u q => q)
  obtain ⟨r, rfl, h⟩ := xqi_get q
  refine xJ.iaload (o_VectorSolverModel_result 11 rfl) rfl h.1 ?_
  replace h := h.2
  refine xJ.istore_n (o_VectorSolverModel_result 12 rfl) (by decide) ?_
  replace h := h _ rfl
  refine xJ.aload_n (o_VectorSolverModel_result 13 rfl) rfl ?_
  refine xJ.iload_n (o_VectorSolverModel_result 14 rfl) rfl ?_
  refine xJ.iconst (v := 0) (o_VectorSolverModel_result 15 rfl) (by decide) ?_
  refine xJ.callV (Y' := Y_VectorSolverModel_valueOf) (o_VectorSolverModel_result 16 rfl) m_VectorSolverModel_364 y_VectorSolverModel_valueOf im_VectorSolverModel_valueOf se_VectorSolverModel_valueOf rfl rfl (s_VectorSolverModel_valueOf h) rfl rfl (Nat.le_of_ble_eq_true rfl) (fun _ hx => by cases hx) (fun v u q => ?_) (fun n u q => q)
  obtain ⟨r, rfl, h⟩ := xql_get q
  refine xJ.lstore (o_VectorSolverModel_result 17 rfl) (by decide) ?_
  refine xJ.iload_n (o_VectorSolverModel_result 18 rfl) rfl ?_
  refine xJ.iconst (v := 2) (o_VectorSolverModel_result 19 rfl) (by decide) ?_
  refine xJ.icmp_eq (tgt := 38) (o_VectorSolverModel_result 20 rfl) (by decide) (fun z => ?_) (fun z => ?_)
  · replace h := h.1 z
    refine xJ.lload (o_VectorSolverModel_result 24 rfl) rfl ?_
    refine xJ.ldc2 (v := (-1)) (o_VectorSolverModel_result 25 rfl) k_VectorSolverModel_335 ?_
    refine xJ.lxor (o_VectorSolverModel_result 26 rfl) ?_
    exact xJ.lreturn (o_VectorSolverModel_result 27 rfl) rfl h
  · replace h := h.2 z
    refine xJ.iload_n (o_VectorSolverModel_result 21 rfl) rfl ?_
    refine xJ.bipush (v := 10) (o_VectorSolverModel_result 22 rfl) (by decide) ?_
    refine xJ.icmp_ne (tgt := 45) (o_VectorSolverModel_result 23 rfl) (by decide) (fun z => ?_) (fun z => ?_)
    · replace h := h.1 z
      refine xJ.iload_n (o_VectorSolverModel_result 28 rfl) rfl ?_
      refine xJ.bipush (v := 11) (o_VectorSolverModel_result 29 rfl) (by decide) ?_
      refine xJ.icmp_ne (tgt := 55) (o_VectorSolverModel_result 30 rfl) (by decide) (fun z => ?_) (fun z => ?_)
      · replace h := h.1 z
        refine xJ.iload_n (o_VectorSolverModel_result 34 rfl) rfl ?_
        refine xJ.bipush (v := 6) (o_VectorSolverModel_result 35 rfl) (by decide) ?_
        refine xJ.icmp_ne (tgt := 120) (o_VectorSolverModel_result 36 rfl) (by decide) (fun z => ?_) (fun z => ?_)
        · replace h := h.1 z
          refine xJ.iload_n (o_VectorSolverModel_result 71 rfl) rfl ?_
          refine xJ.bipush (v := 8) (o_VectorSolverModel_result 72 rfl) (by decide) ?_
          refine xJ.icmp_eq (tgt := 132) (o_VectorSolverModel_result 73 rfl) (by decide) (fun z => ?_) (fun z => ?_)
          · replace h := h.1 z
            exact xJ.lvs (by exact ⟨rfl, rfl, rfl, trivial⟩) (sw_VectorSolverModel_result_132 h)
          · replace h := h.2 z
            refine xJ.iload_n (o_VectorSolverModel_result 74 rfl) rfl ?_
            refine xJ.bipush (v := 9) (o_VectorSolverModel_result 75 rfl) (by decide) ?_
            refine xJ.icmp_ne (tgt := 157) (o_VectorSolverModel_result 76 rfl) (by decide) (fun z => ?_) (fun z => ?_)
            · replace h := h.1 z
              refine xJ.iload_n (o_VectorSolverModel_result 91 rfl) rfl ?_
              refine xJ.bipush (v := 25) (o_VectorSolverModel_result 92 rfl) (by decide) ?_
              refine xJ.icmp_ge (tgt := 211) (o_VectorSolverModel_result 93 rfl) (by decide) (fun z => ?_) (fun z => ?_)
              · replace h := h.1 z
                refine xJ.iload_n (o_VectorSolverModel_result 120 rfl) rfl ?_
                refine xJ.bipush (v := 33) (o_VectorSolverModel_result 121 rfl) (by decide) ?_
                refine xJ.icmp_ge (tgt := 239) (o_VectorSolverModel_result 122 rfl) (by decide) (fun z => ?_) (fun z => ?_)
                · replace h := h.1 z
                  refine xJ.iload_n (o_VectorSolverModel_result 136 rfl) rfl ?_
                  refine xJ.bipush (v := 33) (o_VectorSolverModel_result 137 rfl) (by decide) ?_
                  refine xJ.icmp_ne (tgt := 297) (o_VectorSolverModel_result 138 rfl) (by decide) (fun z => ?_) (fun z => ?_)
                  · replace h := h.1 z
                    refine xJ.iload_n (o_VectorSolverModel_result 168 rfl) rfl ?_
                    refine xJ.bipush (v := 34) (o_VectorSolverModel_result 169 rfl) (by decide) ?_
                    refine xJ.icmp_ne (tgt := 326) (o_VectorSolverModel_result 170 rfl) (by decide) (fun z => ?_) (fun z => ?_)
                    · replace h := h.1 z
                      refine xJ.iload_n (o_VectorSolverModel_result 187 rfl) rfl ?_
                      refine xJ.bipush (v := 36) (o_VectorSolverModel_result 188 rfl) (by decide) ?_
                      refine xJ.icmp_ne (tgt := 344) (o_VectorSolverModel_result 189 rfl) (by decide) (fun z => ?_) (fun z => ?_)
                      · replace h := h.1 z
                        refine xJ.iload_n (o_VectorSolverModel_result 197 rfl) rfl ?_
                        refine xJ.bipush (v := 37) (o_VectorSolverModel_result 198 rfl) (by decide) ?_
                        refine xJ.icmp_ne (tgt := 355) (o_VectorSolverModel_result 199 rfl) (by decide) (fun z => ?_) (fun z => ?_)
                        · replace h := h.1 z
                          refine xJ.lload (o_VectorSolverModel_result 202 rfl) rfl ?_
                          refine xJ.iload_n (o_VectorSolverModel_result 203 rfl) rfl ?_
                          refine xJ.callS (Y' := Y_VectorSolverModel_signed) (o_VectorSolverModel_result 204 rfl) m_VectorSolverModel_347 y_VectorSolverModel_signed st_VectorSolverModel_signed (s_VectorSolverModel_signed h) rfl rfl (Nat.le_of_ble_eq_true rfl) (fun _ hx => by cases hx) (fun v u q => ?_) (fun n u q => q)
                          obtain ⟨r, rfl, h⟩ := xql_get q
                          exact xJ.lreturn (o_VectorSolverModel_result 205 rfl) rfl h
                        · replace h := h.2 z
                          refine xJ.lload (o_VectorSolverModel_result 200 rfl) rfl ?_
                          refine xJ.goto (tgt := 361) (o_VectorSolverModel_result 201 rfl) (by decide) ?_
                          exact xJ.lreturn (o_VectorSolverModel_result 205 rfl) rfl h
                      · replace h := h.2 z
                        refine xJ.lload (o_VectorSolverModel_result 190 rfl) rfl ?_
                        refine xJ.aload_n (o_VectorSolverModel_result 191 rfl) rfl ?_
                        refine xJ.getfield (o_VectorSolverModel_result 192 rfl) f_VectorSolverModel_56 rfl rfl ?_
                        refine xJ.iload_n (o_VectorSolverModel_result 193 rfl) rfl ?_
                        refine xJ.iaload (o_VectorSolverModel_result 194 rfl) rfl h.1 ?_
                        replace h := h.2
                        refine xJ.lushr (o_VectorSolverModel_result 195 rfl) rfl ?_
                        refine xJ.goto (tgt := 361) (o_VectorSolverModel_result 196 rfl) (by decide) ?_
                        exact xJ.lreturn (o_VectorSolverModel_result 205 rfl) rfl h
                    · replace h := h.2 z
                      refine xJ.aload_n (o_VectorSolverModel_result 171 rfl) rfl ?_
                      refine xJ.getfield (o_VectorSolverModel_result 172 rfl) f_VectorSolverModel_116 rfl rfl ?_
                      refine xJ.bipush (v := 64) (o_VectorSolverModel_result 173 rfl) (by decide) ?_
                      refine xJ.aload_n (o_VectorSolverModel_result 174 rfl) rfl ?_
                      refine xJ.iload_n (o_VectorSolverModel_result 175 rfl) rfl ?_
                      refine xJ.iconst (v := 0) (o_VectorSolverModel_result 176 rfl) (by decide) ?_
                      refine xJ.callV (Y' := Y_VectorSolverModel_of) (o_VectorSolverModel_result 177 rfl) m_VectorSolverModel_358 y_VectorSolverModel_of im_VectorSolverModel_of se_VectorSolverModel_of rfl rfl (s_VectorSolverModel_of h) rfl rfl (Nat.le_of_ble_eq_true rfl) (fun _ hx => by cases hx) (fun v u q => ?_) (fun n u q => q)
                      obtain ⟨r, rfl, h⟩ := xqi_get q
                      refine xJ.imul (o_VectorSolverModel_result 178 rfl) ?_
                      refine xJ.aload_n (o_VectorSolverModel_result 179 rfl) rfl ?_
                      refine xJ.iload_n (o_VectorSolverModel_result 180 rfl) rfl ?_
                      refine xJ.iconst (v := 1) (o_VectorSolverModel_result 181 rfl) (by decide) ?_
                      refine xJ.callV (Y' := Y_VectorSolverModel_valueOf) (o_VectorSolverModel_result 182 rfl) m_VectorSolverModel_364 y_VectorSolverModel_valueOf im_VectorSolverModel_valueOf se_VectorSolverModel_valueOf rfl rfl (s_VectorSolverModel_valueOf h) rfl rfl (Nat.le_of_ble_eq_true rfl) (fun _ hx => by cases hx) (fun v u q => ?_) (fun n u q => q)
                      obtain ⟨r, rfl, h⟩ := xql_get q
                      refine xJ.l2i (o_VectorSolverModel_result 183 rfl) rfl ?_
                      refine xJ.iadd (o_VectorSolverModel_result 184 rfl) ?_
                      refine xJ.laload (o_VectorSolverModel_result 185 rfl) rfl h.1 ?_
                      replace h := h.2
                      exact xJ.lreturn (o_VectorSolverModel_result 186 rfl) rfl h
                  · replace h := h.2 z
                    refine xJ.lload (o_VectorSolverModel_result 139 rfl) rfl ?_
                    refine xJ.lstore (o_VectorSolverModel_result 140 rfl) (by decide) ?_
                    refine xJ.iconst (v := 1) (o_VectorSolverModel_result 141 rfl) (by decide) ?_
                    refine xJ.istore (o_VectorSolverModel_result 142 rfl) (by decide) ?_
                    obtain ⟨m, h⟩ := h
                    exact xJ.lvs (by exact ⟨rfl, rfl, rfl, rfl, trivial⟩) (sw_VectorSolverModel_result_252 m _ _ _ _ h)
                · replace h := h.2 z
                  refine xJ.iload_n (o_VectorSolverModel_result 123 rfl) rfl ?_
                  refine xJ.lload (o_VectorSolverModel_result 124 rfl) rfl ?_
                  refine xJ.aload_n (o_VectorSolverModel_result 125 rfl) rfl ?_
                  refine xJ.iload_n (o_VectorSolverModel_result 126 rfl) rfl ?_
                  refine xJ.iconst (v := 1) (o_VectorSolverModel_result 127 rfl) (by decide) ?_
                  refine xJ.callV (Y' := Y_VectorSolverModel_valueOf) (o_VectorSolverModel_result 128 rfl) m_VectorSolverModel_364 y_VectorSolverModel_valueOf im_VectorSolverModel_valueOf se_VectorSolverModel_valueOf rfl rfl (s_VectorSolverModel_valueOf h) rfl rfl (Nat.le_of_ble_eq_true rfl) (fun _ hx => by cases hx) (fun v u q => ?_) (fun n u q => q)
                  obtain ⟨r, rfl, h⟩ := xql_get q
                  refine xJ.iload_n (o_VectorSolverModel_result 129 rfl) rfl ?_
                  refine xJ.callS (Y' := Y_VectorSolverModel_compares) (o_VectorSolverModel_result 130 rfl) m_VectorSolverModel_379 y_VectorSolverModel_compares st_VectorSolverModel_compares (s_VectorSolverModel_compares h) rfl rfl (Nat.le_of_ble_eq_true rfl) (fun _ hx => by cases hx) (fun v u q => ?_) (fun n u q => q)
                  obtain ⟨r, rfl, h⟩ := xqi_get q
                  refine xJ.if_eq (tgt := 237) (o_VectorSolverModel_result 131 rfl) (by decide) (fun z => ?_) (fun z => ?_)
                  · replace h := h.1 z
                    refine xJ.lconst (v := 0) (o_VectorSolverModel_result 134 rfl) (by decide) ?_
                    exact xJ.lreturn (o_VectorSolverModel_result 135 rfl) rfl h
                  · replace h := h.2 z
                    refine xJ.lconst (v := 1) (o_VectorSolverModel_result 132 rfl) (by decide) ?_
                    refine xJ.goto (tgt := 238) (o_VectorSolverModel_result 133 rfl) (by decide) ?_
                    exact xJ.lreturn (o_VectorSolverModel_result 135 rfl) rfl h
              · replace h := h.2 z
                refine xJ.lload (o_VectorSolverModel_result 94 rfl) rfl ?_
                refine xJ.lstore (o_VectorSolverModel_result 95 rfl) (by decide) ?_
                refine xJ.iconst (v := 1) (o_VectorSolverModel_result 96 rfl) (by decide) ?_
                refine xJ.istore (o_VectorSolverModel_result 97 rfl) (by decide) ?_
                obtain ⟨m, h⟩ := h
                exact xJ.lvs (by exact ⟨rfl, rfl, rfl, rfl, rfl, rfl, trivial⟩) (sw_VectorSolverModel_result_170 m _ _ _ _ _ _ h)
            · replace h := h.2 z
              exact xJ.lvs (by exact ⟨rfl, rfl, rfl, trivial⟩) (sw_VectorSolverModel_result_132 h)
        · replace h := h.2 z
          refine xJ.aload_n (o_VectorSolverModel_result 37 rfl) rfl ?_
          refine xJ.iload_n (o_VectorSolverModel_result 38 rfl) rfl ?_
          refine xJ.aload_n (o_VectorSolverModel_result 39 rfl) rfl ?_
          refine xJ.getfield (o_VectorSolverModel_result 40 rfl) f_VectorSolverModel_50 rfl rfl ?_
          refine xJ.iload_n (o_VectorSolverModel_result 41 rfl) rfl ?_
          refine xJ.iaload (o_VectorSolverModel_result 42 rfl) rfl h.1 ?_
          replace h := h.2
          refine xJ.iconst (v := 1) (o_VectorSolverModel_result 43 rfl) (by decide) ?_
          refine xJ.isub (o_VectorSolverModel_result 44 rfl) ?_
          refine xJ.callV (Y' := Y_VectorSolverModel_valueOf) (o_VectorSolverModel_result 45 rfl) m_VectorSolverModel_364 y_VectorSolverModel_valueOf im_VectorSolverModel_valueOf se_VectorSolverModel_valueOf rfl rfl (s_VectorSolverModel_valueOf h) rfl rfl (Nat.le_of_ble_eq_true rfl) (fun _ hx => by cases hx) (fun v u q => ?_) (fun n u q => q)
          obtain ⟨r, rfl, h⟩ := xql_get q
          refine xJ.lstore (o_VectorSolverModel_result 46 rfl) (by decide) ?_
          refine xJ.aload_n (o_VectorSolverModel_result 47 rfl) rfl ?_
          refine xJ.getfield (o_VectorSolverModel_result 48 rfl) f_VectorSolverModel_50 rfl rfl ?_
          refine xJ.iload_n (o_VectorSolverModel_result 49 rfl) rfl ?_
          refine xJ.iaload (o_VectorSolverModel_result 50 rfl) rfl h.1 ?_
          replace h := h.2
          refine xJ.iconst (v := 2) (o_VectorSolverModel_result 51 rfl) (by decide) ?_
          refine xJ.isub (o_VectorSolverModel_result 52 rfl) ?_
          refine xJ.istore (o_VectorSolverModel_result 53 rfl) (by decide) ?_
          replace h := h _ rfl
          obtain ⟨m, h⟩ := h
          exact xJ.lvs (by exact ⟨rfl, rfl, rfl, rfl, trivial⟩) (sw_VectorSolverModel_result_86 m _ _ _ _ h)
      · replace h := h.2 z
        refine xJ.lload (o_VectorSolverModel_result 31 rfl) rfl ?_
        refine xJ.lneg (o_VectorSolverModel_result 32 rfl) ?_
        exact xJ.lreturn (o_VectorSolverModel_result 33 rfl) rfl h
    · replace h := h.2 z
      refine xJ.lload (o_VectorSolverModel_result 24 rfl) rfl ?_
      refine xJ.ldc2 (v := (-1)) (o_VectorSolverModel_result 25 rfl) k_VectorSolverModel_335 ?_
      refine xJ.lxor (o_VectorSolverModel_result 26 rfl) ?_
      exact xJ.lreturn (o_VectorSolverModel_result 27 rfl) rfl h
def w_VectorSolverModel_one_69 (Q : xO → xS → Prop) (t1 : Int32) (t2 : Int32) (σ : xS) : Prop :=
  wp_VectorSolverModel_copy (xqv (fun u20 => Q (.inl none) u20) (fun n u => Q (.inr n) u)) σ t1 t2
def wp_VectorSolverModel_one (Q : xO → xS → Prop) (σ : xS) (a1 : Int32) : Prop :=
  (vp_in a1 2000 ∧ (∀ x1 : Int32, x1 = (xi σ 56 a1.toNatClampNeg) → ((¬ x1 = 0 → ((¬ x1 = 1 → ((¬ x1 = 7 → ((¬ x1 = 35 → wp_VectorSolverModel_result (xql (fun r3 u2 => (vp_in a1 2000 ∧ wp_VectorSolverModel_mask (xql (fun r5 u4 => (vp_in (64 * a1) 128000 ∧ (∀ s6 : xS, s6 = xpl u4 81 (64 * a1).toNatClampNeg (r3 &&& r5) → Q (.inl none) s6))) (fun n u => Q (.inr n) u)) u2 (xi u2 58 a1.toNatClampNeg))) (fun n u => Q (.inr n) u)) σ a1) ∧ (x1 = 35 → wp_VectorSolverModel_of (xqi (fun r8 u7 => wp_VectorSolverModel_copy (xqv (fun u9 => wp_VectorSolverModel_valueOf (xql (fun r12 u11 => wp_VectorSolverModel_valueOf (xql (fun r14 u13 => (vp_in ((64 * a1) + r12.toInt32) 128000 ∧ (∀ s15 : xS, s15 = xpl u13 81 ((64 * a1) + r12.toInt32).toNatClampNeg r14 → Q (.inl none) s15))) (fun n u => Q (.inr n) u)) u11 a1 2) (fun n u => Q (.inr n) u)) u9 a1 1) (fun n u => Q (.inr n) u)) u7 a1 r8) (fun n u => Q (.inr n) u)) σ a1 0))) ∧ (x1 = 7 → wp_VectorSolverModel_valueOf (xql (fun r17 u16 => ((¬ (lg_cmp r17 1) = 0 → wp_VectorSolverModel_of (xqi (fun r19 u18 => w_VectorSolverModel_one_69 Q a1 r19 u18) (fun n u => Q (.inr n) u)) u16 a1 2) ∧ ((lg_cmp r17 1) = 0 → wp_VectorSolverModel_of (xqi (fun r23 u22 => w_VectorSolverModel_one_69 Q a1 r23 u22) (fun n u => Q (.inr n) u)) u16 a1 1))) (fun n u => Q (.inr n) u)) σ a1 0))) ∧ (x1 = 1 → (vp_in a1 2000 ∧ (vp_in (64 * a1) 128000 ∧ (∀ s24 : xS, s24 = xpl σ 81 (64 * a1).toNatClampNeg (xl σ 64 a1.toNatClampNeg) → Q (.inl none) s24)))))) ∧ (x1 = 0 → Q (.inl none) σ))))
set_option maxRecDepth 20000 in
theorem sw_VectorSolverModel_one_69 {γ : xG1} {d b0 : Nat} {Q : xO → xS → Prop} {t1 : Int32} {t2 : Int32} {σ : xS} (h : w_VectorSolverModel_one_69 Q t1 t2 σ) : xJ (SHP, γ) Y_VectorSolverModel_one (d + 5) b0 69 [] [.int t2, .int t1, .ref 50] σ Q := by
  refine xJ.callV (Y' := Y_VectorSolverModel_copy) (o_VectorSolverModel_one 43 rfl) m_VectorSolverModel_388 y_VectorSolverModel_copy im_VectorSolverModel_copy se_VectorSolverModel_copy rfl rfl (s_VectorSolverModel_copy h) rfl rfl (Nat.le_of_ble_eq_true rfl) (fun _ hx => by cases hx) (fun v u q => ?_) (fun n u q => q)
  obtain ⟨rfl, h⟩ := xqv_get q
  refine xJ.goto (tgt := 142) (o_VectorSolverModel_one 44 rfl) (by decide) ?_
  exact xJ.return_ (o_VectorSolverModel_one 87 rfl) rfl h
set_option maxRecDepth 20000 in
theorem s_VectorSolverModel_one {γ : xG1} {d : Nat} {Q : xO → xS → Prop} {σ : xS} {a1 : Int32} (h : wp_VectorSolverModel_one Q σ a1) : xM (SHP, γ) Y_VectorSolverModel_one (d + 5) [.ref 50, .int a1] σ Q := by
  refine xM.of (by decide) (Nat.le_of_ble_eq_true rfl) ?_
  refine xJ.aload_n (o_VectorSolverModel_one 0 rfl) rfl ?_
  refine xJ.getfield (o_VectorSolverModel_one 1 rfl) f_VectorSolverModel_38 rfl rfl ?_
  refine xJ.iload_n (o_VectorSolverModel_one 2 rfl) rfl ?_
  refine xJ.iaload (o_VectorSolverModel_one 3 rfl) rfl h.1 ?_
  replace h := h.2
  refine xJ.istore_n (o_VectorSolverModel_one 4 rfl) (by decide) ?_
  replace h := h _ rfl
  refine xJ.iload_n (o_VectorSolverModel_one 5 rfl) rfl ?_
  refine xJ.if_ne (tgt := 12) (o_VectorSolverModel_one 6 rfl) (by decide) (fun z => ?_) (fun z => ?_)
  · replace h := h.1 z
    refine xJ.iload_n (o_VectorSolverModel_one 8 rfl) rfl ?_
    refine xJ.iconst (v := 1) (o_VectorSolverModel_one 9 rfl) (by decide) ?_
    refine xJ.icmp_ne (tgt := 35) (o_VectorSolverModel_one 10 rfl) (by decide) (fun z => ?_) (fun z => ?_)
    · replace h := h.1 z
      refine xJ.iload_n (o_VectorSolverModel_one 22 rfl) rfl ?_
      refine xJ.bipush (v := 7) (o_VectorSolverModel_one 23 rfl) (by decide) ?_
      refine xJ.icmp_ne (tgt := 75) (o_VectorSolverModel_one 24 rfl) (by decide) (fun z => ?_) (fun z => ?_)
      · replace h := h.1 z
        refine xJ.iload_n (o_VectorSolverModel_one 45 rfl) rfl ?_
        refine xJ.bipush (v := 35) (o_VectorSolverModel_one 46 rfl) (by decide) ?_
        refine xJ.icmp_ne (tgt := 118) (o_VectorSolverModel_one 47 rfl) (by decide) (fun z => ?_) (fun z => ?_)
        · replace h := h.1 z
          refine xJ.aload_n (o_VectorSolverModel_one 72 rfl) rfl ?_
          refine xJ.getfield (o_VectorSolverModel_one 73 rfl) f_VectorSolverModel_116 rfl rfl ?_
          refine xJ.bipush (v := 64) (o_VectorSolverModel_one 74 rfl) (by decide) ?_
          refine xJ.iload_n (o_VectorSolverModel_one 75 rfl) rfl ?_
          refine xJ.imul (o_VectorSolverModel_one 76 rfl) ?_
          refine xJ.aload_n (o_VectorSolverModel_one 77 rfl) rfl ?_
          refine xJ.iload_n (o_VectorSolverModel_one 78 rfl) rfl ?_
          refine xJ.callV (Y' := Y_VectorSolverModel_result) (o_VectorSolverModel_one 79 rfl) m_VectorSolverModel_392 y_VectorSolverModel_result im_VectorSolverModel_result se_VectorSolverModel_result rfl rfl (s_VectorSolverModel_result h) rfl rfl (Nat.le_of_ble_eq_true rfl) (fun _ hx => by cases hx) (fun v u q => ?_) (fun n u q => q)
          obtain ⟨r, rfl, h⟩ := xql_get q
          refine xJ.aload_n (o_VectorSolverModel_one 80 rfl) rfl ?_
          refine xJ.getfield (o_VectorSolverModel_one 81 rfl) f_VectorSolverModel_44 rfl rfl ?_
          refine xJ.iload_n (o_VectorSolverModel_one 82 rfl) rfl ?_
          refine xJ.iaload (o_VectorSolverModel_one 83 rfl) rfl h.1 ?_
          replace h := h.2
          refine xJ.callS (Y' := Y_VectorSolverModel_mask) (o_VectorSolverModel_one 84 rfl) m_VectorSolverModel_375 y_VectorSolverModel_mask st_VectorSolverModel_mask (s_VectorSolverModel_mask h) rfl rfl (Nat.le_of_ble_eq_true rfl) (fun _ hx => by cases hx) (fun v u q => ?_) (fun n u q => q)
          obtain ⟨r, rfl, h⟩ := xql_get q
          refine xJ.land (o_VectorSolverModel_one 85 rfl) ?_
          refine xJ.lastore (o_VectorSolverModel_one 86 rfl) rfl h.1 ?_
          replace h := h.2
          replace h := h _ rfl
          exact xJ.return_ (o_VectorSolverModel_one 87 rfl) rfl h
        · replace h := h.2 z
          refine xJ.aload_n (o_VectorSolverModel_one 48 rfl) rfl ?_
          refine xJ.iload_n (o_VectorSolverModel_one 49 rfl) rfl ?_
          refine xJ.aload_n (o_VectorSolverModel_one 50 rfl) rfl ?_
          refine xJ.iload_n (o_VectorSolverModel_one 51 rfl) rfl ?_
          refine xJ.iconst (v := 0) (o_VectorSolverModel_one 52 rfl) (by decide) ?_
          refine xJ.callV (Y' := Y_VectorSolverModel_of) (o_VectorSolverModel_one 53 rfl) m_VectorSolverModel_358 y_VectorSolverModel_of im_VectorSolverModel_of se_VectorSolverModel_of rfl rfl (s_VectorSolverModel_of h) rfl rfl (Nat.le_of_ble_eq_true rfl) (fun _ hx => by cases hx) (fun v u q => ?_) (fun n u q => q)
          obtain ⟨r, rfl, h⟩ := xqi_get q
          refine xJ.callV (Y' := Y_VectorSolverModel_copy) (o_VectorSolverModel_one 54 rfl) m_VectorSolverModel_388 y_VectorSolverModel_copy im_VectorSolverModel_copy se_VectorSolverModel_copy rfl rfl (s_VectorSolverModel_copy h) rfl rfl (Nat.le_of_ble_eq_true rfl) (fun _ hx => by cases hx) (fun v u q => ?_) (fun n u q => q)
          obtain ⟨rfl, h⟩ := xqv_get q
          refine xJ.aload_n (o_VectorSolverModel_one 55 rfl) rfl ?_
          refine xJ.getfield (o_VectorSolverModel_one 56 rfl) f_VectorSolverModel_116 rfl rfl ?_
          refine xJ.bipush (v := 64) (o_VectorSolverModel_one 57 rfl) (by decide) ?_
          refine xJ.iload_n (o_VectorSolverModel_one 58 rfl) rfl ?_
          refine xJ.imul (o_VectorSolverModel_one 59 rfl) ?_
          refine xJ.aload_n (o_VectorSolverModel_one 60 rfl) rfl ?_
          refine xJ.iload_n (o_VectorSolverModel_one 61 rfl) rfl ?_
          refine xJ.iconst (v := 1) (o_VectorSolverModel_one 62 rfl) (by decide) ?_
          refine xJ.callV (Y' := Y_VectorSolverModel_valueOf) (o_VectorSolverModel_one 63 rfl) m_VectorSolverModel_364 y_VectorSolverModel_valueOf im_VectorSolverModel_valueOf se_VectorSolverModel_valueOf rfl rfl (s_VectorSolverModel_valueOf h) rfl rfl (Nat.le_of_ble_eq_true rfl) (fun _ hx => by cases hx) (fun v u q => ?_) (fun n u q => q)
          obtain ⟨r, rfl, h⟩ := xql_get q
          refine xJ.l2i (o_VectorSolverModel_one 64 rfl) rfl ?_
          refine xJ.iadd (o_VectorSolverModel_one 65 rfl) ?_
          refine xJ.aload_n (o_VectorSolverModel_one 66 rfl) rfl ?_
          refine xJ.iload_n (o_VectorSolverModel_one 67 rfl) rfl ?_
          refine xJ.iconst (v := 2) (o_VectorSolverModel_one 68 rfl) (by decide) ?_
          refine xJ.callV (Y' := Y_VectorSolverModel_valueOf) (o_VectorSolverModel_one 69 rfl) m_VectorSolverModel_364 y_VectorSolverModel_valueOf im_VectorSolverModel_valueOf se_VectorSolverModel_valueOf rfl rfl (s_VectorSolverModel_valueOf h) rfl rfl (Nat.le_of_ble_eq_true rfl) (fun _ hx => by cases hx) (fun v u q => ?_) (fun n u q => q)
          obtain ⟨r, rfl, h⟩ := xql_get q
          refine xJ.lastore (o_VectorSolverModel_one 70 rfl) rfl h.1 ?_
          replace h := h.2
          replace h := h _ rfl
          refine xJ.goto (tgt := 142) (o_VectorSolverModel_one 71 rfl) (by decide) ?_
          exact xJ.return_ (o_VectorSolverModel_one 87 rfl) rfl h
      · replace h := h.2 z
        refine xJ.aload_n (o_VectorSolverModel_one 25 rfl) rfl ?_
        refine xJ.iload_n (o_VectorSolverModel_one 26 rfl) rfl ?_
        refine xJ.aload_n (o_VectorSolverModel_one 27 rfl) rfl ?_
        refine xJ.iload_n (o_VectorSolverModel_one 28 rfl) rfl ?_
        refine xJ.iconst (v := 0) (o_VectorSolverModel_one 29 rfl) (by decide) ?_
        refine xJ.callV (Y' := Y_VectorSolverModel_valueOf) (o_VectorSolverModel_one 30 rfl) m_VectorSolverModel_364 y_VectorSolverModel_valueOf im_VectorSolverModel_valueOf se_VectorSolverModel_valueOf rfl rfl (s_VectorSolverModel_valueOf h) rfl rfl (Nat.le_of_ble_eq_true rfl) (fun _ hx => by cases hx) (fun v u q => ?_) (fun n u q => q)
        obtain ⟨r, rfl, h⟩ := xql_get q
        refine xJ.lconst (v := 1) (o_VectorSolverModel_one 31 rfl) (by decide) ?_
        refine xJ.lcmp (o_VectorSolverModel_one 32 rfl) ?_
        refine xJ.if_ne (tgt := 63) (o_VectorSolverModel_one 33 rfl) (by decide) (fun z => ?_) (fun z => ?_)
        · replace h := h.1 z
          refine xJ.aload_n (o_VectorSolverModel_one 39 rfl) rfl ?_
          refine xJ.iload_n (o_VectorSolverModel_one 40 rfl) rfl ?_
          refine xJ.iconst (v := 2) (o_VectorSolverModel_one 41 rfl) (by decide) ?_
          refine xJ.callV (Y' := Y_VectorSolverModel_of) (o_VectorSolverModel_one 42 rfl) m_VectorSolverModel_358 y_VectorSolverModel_of im_VectorSolverModel_of se_VectorSolverModel_of rfl rfl (s_VectorSolverModel_of h) rfl rfl (Nat.le_of_ble_eq_true rfl) (fun _ hx => by cases hx) (fun v u q => ?_) (fun n u q => q)
          obtain ⟨r, rfl, h⟩ := xqi_get q
          exact xJ.lvs (by exact trivial) (sw_VectorSolverModel_one_69 h)
        · replace h := h.2 z
          refine xJ.aload_n (o_VectorSolverModel_one 34 rfl) rfl ?_
          refine xJ.iload_n (o_VectorSolverModel_one 35 rfl) rfl ?_
          refine xJ.iconst (v := 1) (o_VectorSolverModel_one 36 rfl) (by decide) ?_
          refine xJ.callV (Y' := Y_VectorSolverModel_of) (o_VectorSolverModel_one 37 rfl) m_VectorSolverModel_358 y_VectorSolverModel_of im_VectorSolverModel_of se_VectorSolverModel_of rfl rfl (s_VectorSolverModel_of h) rfl rfl (Nat.le_of_ble_eq_true rfl) (fun _ hx => by cases hx) (fun v u q => ?_) (fun n u q => q)
          obtain ⟨r, rfl, h⟩ := xqi_get q
          refine xJ.goto (tgt := 69) (o_VectorSolverModel_one 38 rfl) (by decide) ?_
          exact xJ.lvs (by exact trivial) (sw_VectorSolverModel_one_69 h)
    · replace h := h.2 z
      refine xJ.aload_n (o_VectorSolverModel_one 11 rfl) rfl ?_
      refine xJ.getfield (o_VectorSolverModel_one 12 rfl) f_VectorSolverModel_116 rfl rfl ?_
      refine xJ.bipush (v := 64) (o_VectorSolverModel_one 13 rfl) (by decide) ?_
      refine xJ.iload_n (o_VectorSolverModel_one 14 rfl) rfl ?_
      refine xJ.imul (o_VectorSolverModel_one 15 rfl) ?_
      refine xJ.aload_n (o_VectorSolverModel_one 16 rfl) rfl ?_
      refine xJ.getfield (o_VectorSolverModel_one 17 rfl) f_VectorSolverModel_62 rfl rfl ?_
      refine xJ.iload_n (o_VectorSolverModel_one 18 rfl) rfl ?_
      refine xJ.laload (o_VectorSolverModel_one 19 rfl) rfl h.1 ?_
      replace h := h.2
      refine xJ.lastore (o_VectorSolverModel_one 20 rfl) rfl h.1 ?_
      replace h := h.2
      replace h := h _ rfl
      refine xJ.goto (tgt := 142) (o_VectorSolverModel_one 21 rfl) (by decide) ?_
      exact xJ.return_ (o_VectorSolverModel_one 87 rfl) rfl h
  · replace h := h.2 z
    exact xJ.return_ (o_VectorSolverModel_one 7 rfl) rfl h
def w_VectorSolverModel_workOut_53 (Q : xO → xS → Prop) (K4 : Int32 → Int32 → xS → Prop) (a2 : Int32) (σ : xS) : Prop :=
  (∀ x4 : Int32, x4 = a2 + 1 → K4 1 x4 σ)
def w_VectorSolverModel_workOut_4 (Q : xO → xS → Prop) : Nat → Int32 → Int32 → xS → Prop
  | 0 => fun _ _ _ => False
  | n + 1 => fun a1 a2 σ =>
    (((xi σ 50 11) ≤ a2 → ((a1 = 0 ∨ a1 = 1) ∧ Q (.inl (some (.int a1))) σ)) ∧ (¬ (xi σ 50 11) ≤ a2 → ((a1 = 0 → ((a1 = 0 ∨ a1 = 1) ∧ Q (.inl (some (.int a1))) σ)) ∧ (¬ a1 = 0 → (vp_in a2 2000 ∧ (((xi σ 82 a2.toNatClampNeg) = 0 → (∀ x1 : Int32, x1 = a2 + 1 → w_VectorSolverModel_workOut_4 Q n a1 x1 σ)) ∧ (¬ (xi σ 82 a2.toNatClampNeg) = 0 → wp_VectorSolverModel_one (xqv (fun u2 => (vp_in a2 2000 ∧ (((xi u2 83 a2.toNatClampNeg) = 0 → w_VectorSolverModel_workOut_53 Q (w_VectorSolverModel_workOut_4 Q n) a2 u2) ∧ (¬ (xi u2 83 a2.toNatClampNeg) = 0 → (vp_in (64 * a2) 128000 ∧ ((¬ (lg_cmp (xl u2 81 (64 * a2).toNatClampNeg) 1) = 0 → (∀ x5 : Int32, x5 = a2 + 1 → w_VectorSolverModel_workOut_4 Q n 0 x5 u2)) ∧ ((lg_cmp (xl u2 81 (64 * a2).toNatClampNeg) 1) = 0 → w_VectorSolverModel_workOut_53 Q (w_VectorSolverModel_workOut_4 Q n) a2 u2))))))) (fun n u => Q (.inr n) u)) σ a2)))))))
def wp_VectorSolverModel_workOut (Q : xO → xS → Prop) (σ : xS)  : Prop :=
  ∃ m, w_VectorSolverModel_workOut_4 Q m 1 0 σ
set_option maxRecDepth 20000 in
theorem sw_VectorSolverModel_workOut_53 {γ : xG1} {d b0 : Nat} {Q : xO → xS → Prop} {K4 : Int32 → Int32 → xS → Prop} (hK4 : ∀ a1 a2 σ, K4 a1 a2 σ → xJ (SHP, γ) Y_VectorSolverModel_workOut (d + 6) b0 4 [(0, .ref 50), (1, .int a1), (2, .int a2)] [] σ Q) {a2 : Int32} {σ : xS} (h : w_VectorSolverModel_workOut_53 Q K4 a2 σ) : xJ (SHP, γ) Y_VectorSolverModel_workOut (d + 6) b0 53 [(0, .ref 50), (2, .int a2)] [] σ Q := by
  refine xJ.iconst (v := 1) (o_VectorSolverModel_workOut 32 rfl) (by decide) ?_
  refine xJ.goto (tgt := 58) (o_VectorSolverModel_workOut 33 rfl) (by decide) ?_
  refine xJ.istore_n (o_VectorSolverModel_workOut 35 rfl) (by decide) ?_
  refine xJ.iincC (w := 1) (o_VectorSolverModel_workOut 36 rfl) rfl (by decide) (by decide) ?_
  replace h := h _ rfl
  refine xJ.goto (tgt := 4) (o_VectorSolverModel_workOut 37 rfl) (by decide) ?_
  exact xJ.lvs (by exact ⟨rfl, rfl, rfl, trivial⟩) (hK4 _ _ _ h)
set_option maxRecDepth 20000 in
theorem sw_VectorSolverModel_workOut_4 {γ : xG1} {d b0 : Nat} {Q : xO → xS → Prop} : ∀ (n : Nat) (a1 : Int32) (a2 : Int32) (σ : xS), w_VectorSolverModel_workOut_4 Q n a1 a2 σ → xJ (SHP, γ) Y_VectorSolverModel_workOut (d + 6) b0 4 [(0, .ref 50), (1, .int a1), (2, .int a2)] [] σ Q := by
  intro n
  induction n with
  | zero => intro a1 a2 σ h; exact h.elim
  | succ n ih =>
    intro a1 a2 σ h
    refine xJ.iload_n (o_VectorSolverModel_workOut 4 rfl) rfl ?_
    refine xJ.aload_n (o_VectorSolverModel_workOut 5 rfl) rfl ?_
    refine xJ.getfield (o_VectorSolverModel_workOut 6 rfl) f_VectorSolverModel_220 rfl rfl ?_
    refine xJ.icmp_ge (tgt := 65) (o_VectorSolverModel_workOut 7 rfl) (by decide) (fun z => ?_) (fun z => ?_)
    · replace h := h.1 z
      refine xJ.iload_n (o_VectorSolverModel_workOut 38 rfl) rfl ?_
      exact xJ.zreturn (o_VectorSolverModel_workOut 39 rfl) rfl h.1 h.2
    · replace h := h.2 z
      refine xJ.iload_n (o_VectorSolverModel_workOut 8 rfl) rfl ?_
      refine xJ.if_eq (tgt := 65) (o_VectorSolverModel_workOut 9 rfl) (by decide) (fun z => ?_) (fun z => ?_)
      · replace h := h.1 z
        refine xJ.iload_n (o_VectorSolverModel_workOut 38 rfl) rfl ?_
        exact xJ.zreturn (o_VectorSolverModel_workOut 39 rfl) rfl h.1 h.2
      · replace h := h.2 z
        refine xJ.aload_n (o_VectorSolverModel_workOut 10 rfl) rfl ?_
        refine xJ.getfield (o_VectorSolverModel_workOut 11 rfl) f_VectorSolverModel_119 rfl rfl ?_
        refine xJ.iload_n (o_VectorSolverModel_workOut 12 rfl) rfl ?_
        refine xJ.zaload (o_VectorSolverModel_workOut 13 rfl) rfl h.1 ?_
        replace h := h.2
        refine xJ.if_eq (tgt := 59) (o_VectorSolverModel_workOut 14 rfl) (by decide) (fun z => ?_) (fun z => ?_)
        · replace h := h.1 z
          refine xJ.iincC (w := 1) (o_VectorSolverModel_workOut 36 rfl) rfl (by decide) (by decide) ?_
          replace h := h _ rfl
          refine xJ.goto (tgt := 4) (o_VectorSolverModel_workOut 37 rfl) (by decide) ?_
          exact xJ.lvs (by exact ⟨rfl, rfl, rfl, trivial⟩) (ih _ _ _ h)
        · replace h := h.2 z
          refine xJ.aload_n (o_VectorSolverModel_workOut 15 rfl) rfl ?_
          refine xJ.iload_n (o_VectorSolverModel_workOut 16 rfl) rfl ?_
          refine xJ.callV (Y' := Y_VectorSolverModel_one) (o_VectorSolverModel_workOut 17 rfl) m_VectorSolverModel_386 y_VectorSolverModel_one im_VectorSolverModel_one se_VectorSolverModel_one rfl rfl (s_VectorSolverModel_one h) rfl rfl (Nat.le_of_ble_eq_true rfl) (fun _ hx => by cases hx) (fun v u q => ?_) (fun n u q => q)
          obtain ⟨rfl, h⟩ := xqv_get q
          refine xJ.aload_n (o_VectorSolverModel_workOut 18 rfl) rfl ?_
          refine xJ.getfield (o_VectorSolverModel_workOut 19 rfl) f_VectorSolverModel_123 rfl rfl ?_
          refine xJ.iload_n (o_VectorSolverModel_workOut 20 rfl) rfl ?_
          refine xJ.zaload (o_VectorSolverModel_workOut 21 rfl) rfl h.1 ?_
          replace h := h.2
          refine xJ.if_eq (tgt := 53) (o_VectorSolverModel_workOut 22 rfl) (by decide) (fun z => ?_) (fun z => ?_)
          · replace h := h.1 z
            exact xJ.lvs (by exact ⟨rfl, rfl, trivial⟩) (sw_VectorSolverModel_workOut_53 ih h)
          · replace h := h.2 z
            refine xJ.aload_n (o_VectorSolverModel_workOut 23 rfl) rfl ?_
            refine xJ.getfield (o_VectorSolverModel_workOut 24 rfl) f_VectorSolverModel_116 rfl rfl ?_
            refine xJ.bipush (v := 64) (o_VectorSolverModel_workOut 25 rfl) (by decide) ?_
            refine xJ.iload_n (o_VectorSolverModel_workOut 26 rfl) rfl ?_
            refine xJ.imul (o_VectorSolverModel_workOut 27 rfl) ?_
            refine xJ.laload (o_VectorSolverModel_workOut 28 rfl) rfl h.1 ?_
            replace h := h.2
            refine xJ.lconst (v := 1) (o_VectorSolverModel_workOut 29 rfl) (by decide) ?_
            refine xJ.lcmp (o_VectorSolverModel_workOut 30 rfl) ?_
            refine xJ.if_ne (tgt := 57) (o_VectorSolverModel_workOut 31 rfl) (by decide) (fun z => ?_) (fun z => ?_)
            · replace h := h.1 z
              refine xJ.iconst (v := 0) (o_VectorSolverModel_workOut 34 rfl) (by decide) ?_
              refine xJ.istore_n (o_VectorSolverModel_workOut 35 rfl) (by decide) ?_
              refine xJ.iincC (w := 1) (o_VectorSolverModel_workOut 36 rfl) rfl (by decide) (by decide) ?_
              replace h := h _ rfl
              refine xJ.goto (tgt := 4) (o_VectorSolverModel_workOut 37 rfl) (by decide) ?_
              exact xJ.lvs (by exact ⟨rfl, rfl, rfl, trivial⟩) (ih _ _ _ h)
            · replace h := h.2 z
              exact xJ.lvs (by exact ⟨rfl, rfl, trivial⟩) (sw_VectorSolverModel_workOut_53 ih h)
set_option maxRecDepth 20000 in
theorem s_VectorSolverModel_workOut {γ : xG1} {d : Nat} {Q : xO → xS → Prop} {σ : xS}  (h : wp_VectorSolverModel_workOut Q σ ) : xM (SHP, γ) Y_VectorSolverModel_workOut (d + 6) [.ref 50] σ Q := by
  refine xM.of (by decide) (Nat.le_of_ble_eq_true rfl) ?_
  refine xJ.iconst (v := 1) (o_VectorSolverModel_workOut 0 rfl) (by decide) ?_
  refine xJ.istore_n (o_VectorSolverModel_workOut 1 rfl) (by decide) ?_
  refine xJ.iconst (v := 0) (o_VectorSolverModel_workOut 2 rfl) (by decide) ?_
  refine xJ.istore_n (o_VectorSolverModel_workOut 3 rfl) (by decide) ?_
  obtain ⟨m, h⟩ := h
  exact xJ.lvs (by exact ⟨rfl, rfl, rfl, trivial⟩) (sw_VectorSolverModel_workOut_4 m _ _ _ h)
def w_VectorSolverModel_lay1_52 (Q : xO → xS → Prop) (K8 : Int64 → Int32 → Int32 → xS → Prop) : Nat → Int64 → Int32 → Int32 → Int32 → Int32 → Int32 → xS → Prop
  | 0 => fun _ _ _ _ _ _ _ => False
  | n + 1 => fun a1 a3 a4 a5 a6 a7 σ =>
    wp_VectorSolverModel_cells (xqi (fun r5 u4 => ((r5 ≤ a7 → (∀ x6 : Int32, x6 = a4 + 1 → K8 a1 a3 x6 u4)) ∧ (¬ r5 ≤ a7 → (∀ x7 : Int32, x7 = (a3 - a6) → (vp_in a5 2000 ∧ wp_VectorSolverModel_mask (xql (fun r9 u8 => (vp_in ((64 * a5) + a7) 128000 ∧ (∀ s10 : xS, s10 = xpl u8 81 ((64 * a5) + a7).toNatClampNeg ((jlshr a1 x7) &&& r9) → (∀ x11 : Int32, x11 = a7 + 1 → w_VectorSolverModel_lay1_52 Q K8 n a1 x7 a4 a5 a6 x11 s10)))) (fun n u => Q (.inr n) u)) u4 (xi u4 58 a5.toNatClampNeg)))))) (fun n u => Q (.inr n) u)) σ a5
def w_VectorSolverModel_lay1_8 (Q : xO → xS → Prop) : Nat → Int64 → Int32 → Int32 → xS → Prop
  | 0 => fun _ _ _ _ => False
  | n + 1 => fun a1 a3 a4 σ =>
    (((xi σ 50 42) ≤ a4 → Q (.inl none) σ) ∧ (¬ (xi σ 50 42) ≤ a4 → (vp_in a4 2000 ∧ (∀ x2 : Int32, x2 = (xi σ 80 a4.toNatClampNeg) → (vp_in x2 2000 ∧ ((¬ (xi σ 58 x2.toNatClampNeg) = 0 → (vp_in x2 2000 ∧ (∀ x3 : Int32, x3 = (xi σ 58 x2.toNatClampNeg) → ∃ m, w_VectorSolverModel_lay1_52 Q (w_VectorSolverModel_lay1_8 Q n) m a1 a3 a4 x2 x3 0 σ))) ∧ ((xi σ 58 x2.toNatClampNeg) = 0 → ∃ m, w_VectorSolverModel_lay1_52 Q (w_VectorSolverModel_lay1_8 Q n) m a1 a3 a4 x2 1 0 σ)))))))
def wp_VectorSolverModel_lay1 (Q : xO → xS → Prop) (σ : xS) (a1 : Int64) : Prop :=
  (∀ x1 : Int32, x1 = (xi σ 50 45) → ∃ m, w_VectorSolverModel_lay1_8 Q m a1 x1 0 σ)
set_option maxRecDepth 20000 in
theorem sw_VectorSolverModel_lay1_52 {γ : xG1} {d b0 : Nat} {Q : xO → xS → Prop} {K8 : Int64 → Int32 → Int32 → xS → Prop} (hK8 : ∀ a1 a3 a4 σ, K8 a1 a3 a4 σ → xJ (SHP, γ) Y_VectorSolverModel_lay1 (d + 1) b0 8 [(0, .ref 50), (1, .long a1), (3, .int a3), (4, .int a4)] [] σ Q) : ∀ (n : Nat) (a1 : Int64) (a3 : Int32) (a4 : Int32) (a5 : Int32) (a6 : Int32) (a7 : Int32) (σ : xS), w_VectorSolverModel_lay1_52 Q K8 n a1 a3 a4 a5 a6 a7 σ → xJ (SHP, γ) Y_VectorSolverModel_lay1 (d + 1) b0 52 [(0, .ref 50), (1, .long a1), (3, .int a3), (4, .int a4), (5, .int a5), (6, .int a6), (7, .int a7)] [] σ Q := by
  intro n
  induction n with
  | zero => intro a1 a3 a4 a5 a6 a7 σ h; exact h.elim
  | succ n ih =>
    intro a1 a3 a4 a5 a6 a7 σ h
    refine xJ.iload (o_VectorSolverModel_lay1 28 rfl) rfl ?_
    refine xJ.aload_n (o_VectorSolverModel_lay1 29 rfl) rfl ?_
    refine xJ.iload (o_VectorSolverModel_lay1 30 rfl) rfl ?_
    refine xJ.callV (Y' := Y_VectorSolverModel_cells) (o_VectorSolverModel_lay1 31 rfl) m_VectorSolverModel_361 y_VectorSolverModel_cells im_VectorSolverModel_cells se_VectorSolverModel_cells rfl rfl (s_VectorSolverModel_cells h) rfl rfl (Nat.le_of_ble_eq_true rfl) (fun _ hx => by cases hx) (fun v u q => ?_) (fun n u q => q)
    obtain ⟨r, rfl, h⟩ := xqi_get q
    refine xJ.icmp_ge (tgt := 101) (o_VectorSolverModel_lay1 32 rfl) (by decide) (fun z => ?_) (fun z => ?_)
    · replace h := h.1 z
      refine xJ.iincC (w := 1) (o_VectorSolverModel_lay1 56 rfl) rfl (by decide) (by decide) ?_
      replace h := h _ rfl
      refine xJ.goto (tgt := 8) (o_VectorSolverModel_lay1 57 rfl) (by decide) ?_
      exact xJ.lvs (by exact ⟨rfl, rfl, rfl, rfl, trivial⟩) (hK8 _ _ _ _ h)
    · replace h := h.2 z
      refine xJ.iload_n (o_VectorSolverModel_lay1 33 rfl) rfl ?_
      refine xJ.iload (o_VectorSolverModel_lay1 34 rfl) rfl ?_
      refine xJ.isub (o_VectorSolverModel_lay1 35 rfl) ?_
      refine xJ.istore_n (o_VectorSolverModel_lay1 36 rfl) (by decide) ?_
      replace h := h _ rfl
      refine xJ.aload_n (o_VectorSolverModel_lay1 37 rfl) rfl ?_
      refine xJ.getfield (o_VectorSolverModel_lay1 38 rfl) f_VectorSolverModel_116 rfl rfl ?_
      refine xJ.bipush (v := 64) (o_VectorSolverModel_lay1 39 rfl) (by decide) ?_
      refine xJ.iload (o_VectorSolverModel_lay1 40 rfl) rfl ?_
      refine xJ.imul (o_VectorSolverModel_lay1 41 rfl) ?_
      refine xJ.iload (o_VectorSolverModel_lay1 42 rfl) rfl ?_
      refine xJ.iadd (o_VectorSolverModel_lay1 43 rfl) ?_
      refine xJ.lload_n (o_VectorSolverModel_lay1 44 rfl) rfl ?_
      refine xJ.iload_n (o_VectorSolverModel_lay1 45 rfl) rfl ?_
      refine xJ.lshr (o_VectorSolverModel_lay1 46 rfl) rfl ?_
      refine xJ.aload_n (o_VectorSolverModel_lay1 47 rfl) rfl ?_
      refine xJ.getfield (o_VectorSolverModel_lay1 48 rfl) f_VectorSolverModel_44 rfl rfl ?_
      refine xJ.iload (o_VectorSolverModel_lay1 49 rfl) rfl ?_
      refine xJ.iaload (o_VectorSolverModel_lay1 50 rfl) rfl h.1 ?_
      replace h := h.2
      refine xJ.callS (Y' := Y_VectorSolverModel_mask) (o_VectorSolverModel_lay1 51 rfl) m_VectorSolverModel_375 y_VectorSolverModel_mask st_VectorSolverModel_mask (s_VectorSolverModel_mask h) rfl rfl (Nat.le_of_ble_eq_true rfl) (fun _ hx => by cases hx) (fun v u q => ?_) (fun n u q => q)
      obtain ⟨r, rfl, h⟩ := xql_get q
      refine xJ.land (o_VectorSolverModel_lay1 52 rfl) ?_
      refine xJ.lastore (o_VectorSolverModel_lay1 53 rfl) rfl h.1 ?_
      replace h := h.2
      replace h := h _ rfl
      refine xJ.iincC (w := 1) (o_VectorSolverModel_lay1 54 rfl) rfl (by decide) (by decide) ?_
      replace h := h _ rfl
      refine xJ.goto (tgt := 52) (o_VectorSolverModel_lay1 55 rfl) (by decide) ?_
      exact xJ.lvs (by exact ⟨rfl, rfl, rfl, rfl, rfl, rfl, rfl, trivial⟩) (ih _ _ _ _ _ _ _ h)
set_option maxRecDepth 20000 in
theorem sw_VectorSolverModel_lay1_8 {γ : xG1} {d b0 : Nat} {Q : xO → xS → Prop} : ∀ (n : Nat) (a1 : Int64) (a3 : Int32) (a4 : Int32) (σ : xS), w_VectorSolverModel_lay1_8 Q n a1 a3 a4 σ → xJ (SHP, γ) Y_VectorSolverModel_lay1 (d + 1) b0 8 [(0, .ref 50), (1, .long a1), (3, .int a3), (4, .int a4)] [] σ Q := by
  intro n
  induction n with
  | zero => intro a1 a3 a4 σ h; exact h.elim
  | succ n ih =>
    intro a1 a3 a4 σ h
    refine xJ.iload (o_VectorSolverModel_lay1 5 rfl) rfl ?_
    refine xJ.aload_n (o_VectorSolverModel_lay1 6 rfl) rfl ?_
    refine xJ.getfield (o_VectorSolverModel_lay1 7 rfl) f_VectorSolverModel_246 rfl rfl ?_
    refine xJ.icmp_ge (tgt := 107) (o_VectorSolverModel_lay1 8 rfl) (by decide) (fun z => ?_) (fun z => ?_)
    · replace h := h.1 z
      exact xJ.return_ (o_VectorSolverModel_lay1 58 rfl) rfl h
    · replace h := h.2 z
      refine xJ.aload_n (o_VectorSolverModel_lay1 9 rfl) rfl ?_
      refine xJ.getfield (o_VectorSolverModel_lay1 10 rfl) f_VectorSolverModel_112 rfl rfl ?_
      refine xJ.iload (o_VectorSolverModel_lay1 11 rfl) rfl ?_
      refine xJ.iaload (o_VectorSolverModel_lay1 12 rfl) rfl h.1 ?_
      replace h := h.2
      refine xJ.istore (o_VectorSolverModel_lay1 13 rfl) (by decide) ?_
      replace h := h _ rfl
      refine xJ.aload_n (o_VectorSolverModel_lay1 14 rfl) rfl ?_
      refine xJ.getfield (o_VectorSolverModel_lay1 15 rfl) f_VectorSolverModel_44 rfl rfl ?_
      refine xJ.iload (o_VectorSolverModel_lay1 16 rfl) rfl ?_
      refine xJ.iaload (o_VectorSolverModel_lay1 17 rfl) rfl h.1 ?_
      replace h := h.2
      refine xJ.if_ne (tgt := 40) (o_VectorSolverModel_lay1 18 rfl) (by decide) (fun z => ?_) (fun z => ?_)
      · replace h := h.1 z
        refine xJ.aload_n (o_VectorSolverModel_lay1 21 rfl) rfl ?_
        refine xJ.getfield (o_VectorSolverModel_lay1 22 rfl) f_VectorSolverModel_44 rfl rfl ?_
        refine xJ.iload (o_VectorSolverModel_lay1 23 rfl) rfl ?_
        refine xJ.iaload (o_VectorSolverModel_lay1 24 rfl) rfl h.1 ?_
        replace h := h.2
        refine xJ.istore (o_VectorSolverModel_lay1 25 rfl) (by decide) ?_
        replace h := h _ rfl
        refine xJ.iconst (v := 0) (o_VectorSolverModel_lay1 26 rfl) (by decide) ?_
        refine xJ.istore (o_VectorSolverModel_lay1 27 rfl) (by decide) ?_
        obtain ⟨m, h⟩ := h
        exact xJ.lvs (by exact ⟨rfl, rfl, rfl, rfl, rfl, rfl, rfl, trivial⟩) (sw_VectorSolverModel_lay1_52 ih m _ _ _ _ _ _ _ h)
      · replace h := h.2 z
        refine xJ.iconst (v := 1) (o_VectorSolverModel_lay1 19 rfl) (by decide) ?_
        refine xJ.goto (tgt := 47) (o_VectorSolverModel_lay1 20 rfl) (by decide) ?_
        refine xJ.istore (o_VectorSolverModel_lay1 25 rfl) (by decide) ?_
        refine xJ.iconst (v := 0) (o_VectorSolverModel_lay1 26 rfl) (by decide) ?_
        refine xJ.istore (o_VectorSolverModel_lay1 27 rfl) (by decide) ?_
        obtain ⟨m, h⟩ := h
        exact xJ.lvs (by exact ⟨rfl, rfl, rfl, rfl, rfl, rfl, rfl, trivial⟩) (sw_VectorSolverModel_lay1_52 ih m _ _ _ _ _ _ _ h)
set_option maxRecDepth 20000 in
theorem s_VectorSolverModel_lay1 {γ : xG1} {d : Nat} {Q : xO → xS → Prop} {σ : xS} {a1 : Int64} (h : wp_VectorSolverModel_lay1 Q σ a1) : xM (SHP, γ) Y_VectorSolverModel_lay1 (d + 1) [.ref 50, .long a1] σ Q := by
  refine xM.of (by decide) (Nat.le_of_ble_eq_true rfl) ?_
  refine xJ.aload_n (o_VectorSolverModel_lay1 0 rfl) rfl ?_
  refine xJ.getfield (o_VectorSolverModel_lay1 1 rfl) f_VectorSolverModel_249 rfl rfl ?_
  refine xJ.istore_n (o_VectorSolverModel_lay1 2 rfl) (by decide) ?_
  replace h := h _ rfl
  refine xJ.iconst (v := 0) (o_VectorSolverModel_lay1 3 rfl) (by decide) ?_
  refine xJ.istore (o_VectorSolverModel_lay1 4 rfl) (by decide) ?_
  obtain ⟨m, h⟩ := h
  exact xJ.lvs (by exact ⟨rfl, rfl, rfl, rfl, trivial⟩) (sw_VectorSolverModel_lay1_8 m _ _ _ _ h)
def w_VectorSolverModel_pay_42 (Q : xO → xS → Prop) (a1 : Int64) (t0 : Int32) (σ : xS) : Prop :=
  ((t0 = 0 → (∀ s2 : xS, s2 = xpl σ 50 46 ((xl σ 50 46) + 0) → ((t0 = 0 ∨ t0 = 1) ∧ Q (.inl (some (.int t0))) s2))) ∧ (¬ t0 = 0 → (∀ s3 : xS, s3 = xpl σ 50 46 ((xl σ 50 46) + a1) → ((t0 = 0 ∨ t0 = 1) ∧ Q (.inl (some (.int t0))) s3))))
def wp_VectorSolverModel_pay (Q : xO → xS → Prop) (σ : xS)  : Prop :=
  (((xi σ 50 45) ≤ 16 → (∀ x1 : Int64, x1 = ((jlshl 1 (xi σ 50 45)) * ((xi σ 50 11).toInt64)) → ((0 < (lg_cmp ((xl σ 50 46) + x1) 200000000) → w_VectorSolverModel_pay_42 Q x1 0 σ) ∧ (¬ 0 < (lg_cmp ((xl σ 50 46) + x1) 200000000) → w_VectorSolverModel_pay_42 Q x1 1 σ)))) ∧ (¬ (xi σ 50 45) ≤ 16 → Q (.inl (some (.int 0))) σ))
set_option maxRecDepth 20000 in
theorem sw_VectorSolverModel_pay_42 {γ : xG1} {d b0 : Nat} {Q : xO → xS → Prop} {a1 : Int64} {t0 : Int32} {σ : xS} (h : w_VectorSolverModel_pay_42 Q a1 t0 σ) : xJ (SHP, γ) Y_VectorSolverModel_pay (d + 0) b0 42 [(0, .ref 50), (1, .long a1)] [.int t0] σ Q := by
  refine xJ.istore_n (o_VectorSolverModel_pay 25 rfl) (by decide) ?_
  refine xJ.aload_n (o_VectorSolverModel_pay 26 rfl) rfl ?_
  refine xJ.dup (o_VectorSolverModel_pay 27 rfl) rfl ?_
  refine xJ.getfield (o_VectorSolverModel_pay 28 rfl) f_VectorSolverModel_395 rfl rfl ?_
  refine xJ.iload_n (o_VectorSolverModel_pay 29 rfl) rfl ?_
  refine xJ.if_eq (tgt := 56) (o_VectorSolverModel_pay 30 rfl) (by decide) (fun z => ?_) (fun z => ?_)
  · replace h := h.1 z
    refine xJ.lconst (v := 0) (o_VectorSolverModel_pay 33 rfl) (by decide) ?_
    refine xJ.ladd (o_VectorSolverModel_pay 34 rfl) ?_
    refine xJ.putL (o_VectorSolverModel_pay 35 rfl) f_VectorSolverModel_395 rfl rfl rfl ?_
    replace h := h _ rfl
    refine xJ.iload_n (o_VectorSolverModel_pay 36 rfl) rfl ?_
    exact xJ.zreturn (o_VectorSolverModel_pay 37 rfl) rfl h.1 h.2
  · replace h := h.2 z
    refine xJ.lload_n (o_VectorSolverModel_pay 31 rfl) rfl ?_
    refine xJ.goto (tgt := 57) (o_VectorSolverModel_pay 32 rfl) (by decide) ?_
    refine xJ.ladd (o_VectorSolverModel_pay 34 rfl) ?_
    refine xJ.putL (o_VectorSolverModel_pay 35 rfl) f_VectorSolverModel_395 rfl rfl rfl ?_
    replace h := h _ rfl
    refine xJ.iload_n (o_VectorSolverModel_pay 36 rfl) rfl ?_
    exact xJ.zreturn (o_VectorSolverModel_pay 37 rfl) rfl h.1 h.2
set_option maxRecDepth 20000 in
theorem s_VectorSolverModel_pay {γ : xG1} {d : Nat} {Q : xO → xS → Prop} {σ : xS}  (h : wp_VectorSolverModel_pay Q σ ) : xM (SHP, γ) Y_VectorSolverModel_pay (d + 0) [.ref 50] σ Q := by
  refine xM.of (by decide) (Nat.le_of_ble_eq_true rfl) ?_
  refine xJ.aload_n (o_VectorSolverModel_pay 0 rfl) rfl ?_
  refine xJ.getfield (o_VectorSolverModel_pay 1 rfl) f_VectorSolverModel_249 rfl rfl ?_
  refine xJ.bipush (v := 16) (o_VectorSolverModel_pay 2 rfl) (by decide) ?_
  refine xJ.icmp_le (tgt := 11) (o_VectorSolverModel_pay 3 rfl) (by decide) (fun z => ?_) (fun z => ?_)
  · replace h := h.1 z
    refine xJ.lconst (v := 1) (o_VectorSolverModel_pay 6 rfl) (by decide) ?_
    refine xJ.aload_n (o_VectorSolverModel_pay 7 rfl) rfl ?_
    refine xJ.getfield (o_VectorSolverModel_pay 8 rfl) f_VectorSolverModel_249 rfl rfl ?_
    refine xJ.lshl (o_VectorSolverModel_pay 9 rfl) rfl ?_
    refine xJ.aload_n (o_VectorSolverModel_pay 10 rfl) rfl ?_
    refine xJ.getfield (o_VectorSolverModel_pay 11 rfl) f_VectorSolverModel_220 rfl rfl ?_
    refine xJ.i2l (o_VectorSolverModel_pay 12 rfl) rfl ?_
    refine xJ.lmul (o_VectorSolverModel_pay 13 rfl) ?_
    refine xJ.lstore_n (o_VectorSolverModel_pay 14 rfl) (by decide) ?_
    replace h := h _ rfl
    refine xJ.aload_n (o_VectorSolverModel_pay 15 rfl) rfl ?_
    refine xJ.getfield (o_VectorSolverModel_pay 16 rfl) f_VectorSolverModel_395 rfl rfl ?_
    refine xJ.lload_n (o_VectorSolverModel_pay 17 rfl) rfl ?_
    refine xJ.ladd (o_VectorSolverModel_pay 18 rfl) ?_
    refine xJ.ldc2 (v := 200000000) (o_VectorSolverModel_pay 19 rfl) k_VectorSolverModel_399 ?_
    refine xJ.lcmp (o_VectorSolverModel_pay 20 rfl) ?_
    refine xJ.if_gt (tgt := 41) (o_VectorSolverModel_pay 21 rfl) (by decide) (fun z => ?_) (fun z => ?_)
    · replace h := h.1 z
      refine xJ.iconst (v := 0) (o_VectorSolverModel_pay 24 rfl) (by decide) ?_
      exact xJ.lvs (by exact ⟨rfl, rfl, trivial⟩) (sw_VectorSolverModel_pay_42 h)
    · replace h := h.2 z
      refine xJ.iconst (v := 1) (o_VectorSolverModel_pay 22 rfl) (by decide) ?_
      refine xJ.goto (tgt := 42) (o_VectorSolverModel_pay 23 rfl) (by decide) ?_
      exact xJ.lvs (by exact ⟨rfl, rfl, trivial⟩) (sw_VectorSolverModel_pay_42 h)
  · replace h := h.2 z
    refine xJ.iconst (v := 0) (o_VectorSolverModel_pay 4 rfl) (by decide) ?_
    exact xJ.zreturn (o_VectorSolverModel_pay 5 rfl) rfl (Or.inl rfl) h
def w_VectorSolverModel_search_174 (Q : xO → xS → Prop) : Nat → Int64 → xS → Prop
  | 0 => fun _ _ => False
  | n + 1 => fun a4 σ =>
    ((0 ≤ (lg_cmp a4 (jlshl 1 (xi σ 50 45))) → Q (.inl (some (.int 0))) σ) ∧ (¬ 0 ≤ (lg_cmp a4 (jlshl 1 (xi σ 50 45))) → wp_VectorSolverModel_lay1 (xqv (fun u2 => wp_VectorSolverModel_workOut (xqi (fun r5 u4 => ((r5 = 0 → (∀ x6 : Int64, x6 = (a4 + 1) → w_VectorSolverModel_search_174 Q n x6 u4)) ∧ (¬ r5 = 0 → (∀ s7 : xS, s7 = xpl u4 50 51 a4 → (∀ s8 : xS, s8 = xpi s7 50 52 (xi s7 50 45) → Q (.inl (some (.int 1))) s8))))) (fun n u => Q (.inr n) u)) u2 ) (fun n u => Q (.inr n) u)) σ a4))
def w_VectorSolverModel_search_123 (Q : xO → xS → Prop) (K83 : Int64 → Int32 → xS → Prop) : Nat → Int64 → Int32 → Int32 → xS → Prop
  | 0 => fun _ _ _ _ => False
  | n + 1 => fun a1 a4 a5 σ =>
    (vp_in a4 2000 ∧ (((xi σ 60 a4.toNatClampNeg) ≤ a5 → (∀ x10 : Int32, x10 = a4 + (-1) → K83 a1 x10 σ)) ∧ (¬ (xi σ 60 a4.toNatClampNeg) ≤ a5 → (vp_in a4 2000 ∧ (((xi σ 82 a4.toNatClampNeg) = 0 → (∀ x11 : Int32, x11 = a4 + (-1) → K83 a1 x11 σ)) ∧ (¬ (xi σ 82 a4.toNatClampNeg) = 0 → wp_VectorSolverModel_of (xqi (fun r13 u12 => (vp_in r13 2000 ∧ (∀ s14 : xS, s14 = xpi u12 82 r13.toNatClampNeg (vp_nar .boolean 1) → (∀ x15 : Int32, x15 = a5 + 1 → w_VectorSolverModel_search_123 Q K83 n a1 a4 x15 s14)))) (fun n u => Q (.inr n) u)) σ a4 a5))))))
def w_VectorSolverModel_search_114 (Q : xO → xS → Prop) (K83 : Int64 → Int32 → xS → Prop) (a1 : Int64) (a4 : Int32) (t1 : Int32) (σ : xS) : Prop :=
  (vp_in t1 2000 ∧ (∀ s9 : xS, s9 = xpi σ 82 t1.toNatClampNeg (vp_nar .boolean 1) → ∃ m, w_VectorSolverModel_search_123 Q K83 m a1 a4 0 s9))
def w_VectorSolverModel_search_83 (Q : xO → xS → Prop) : Nat → Int64 → Int32 → xS → Prop
  | 0 => fun _ _ _ => False
  | n + 1 => fun a1 a4 σ =>
    ((a4 < 0 → ∃ m, w_VectorSolverModel_search_174 Q m a1 σ) ∧ (¬ a4 < 0 → (vp_in a4 2000 ∧ ((¬ (xi σ 82 a4.toNatClampNeg) = 0 → w_VectorSolverModel_search_114 Q (w_VectorSolverModel_search_83 Q n) a1 a4 a4 σ) ∧ ((xi σ 82 a4.toNatClampNeg) = 0 → (vp_in a4 2000 ∧ (((xi σ 83 a4.toNatClampNeg) = 0 → (vp_in a4 2000 ∧ (∀ s16 : xS, s16 = xpi σ 82 a4.toNatClampNeg (vp_nar .boolean 0) → ∃ m, w_VectorSolverModel_search_123 Q (w_VectorSolverModel_search_83 Q n) m a1 a4 0 s16))) ∧ (¬ (xi σ 83 a4.toNatClampNeg) = 0 → w_VectorSolverModel_search_114 Q (w_VectorSolverModel_search_83 Q n) a1 a4 a4 σ))))))))
def w_VectorSolverModel_search_47 (Q : xO → xS → Prop) : Nat → Int64 → Int32 → xS → Prop
  | 0 => fun _ _ _ => False
  | n + 1 => fun a1 a4 σ =>
    (((xi σ 50 27) ≤ a4 → (∀ x1 : Int32, x1 = ((xi σ 50 11) - 1) → ∃ m, w_VectorSolverModel_search_83 Q m a1 x1 σ)) ∧ (¬ (xi σ 50 27) ≤ a4 → (vp_in a4 500 ∧ (vp_in (xi σ 69 a4.toNatClampNeg) 2000 ∧ (∀ s17 : xS, s17 = xpi σ 83 (xi σ 69 a4.toNatClampNeg).toNatClampNeg (vp_nar .boolean 1) → (∀ x18 : Int32, x18 = a4 + 1 → w_VectorSolverModel_search_47 Q n a1 x18 s17))))))
def w_VectorSolverModel_search_29 (Q : xO → xS → Prop) (K3 : Int64 → Int32 → Int32 → xS → Prop) (a1 : Int64) (a3 : Int32) (a4 : Int32) (t1 : Int32) (t2 : Int32) (σ : xS) : Prop :=
  (vp_in t1 2000 ∧ (∀ s19 : xS, s19 = xpi σ 83 t1.toNatClampNeg (vp_nar .boolean t2) → (vp_in a4 2000 ∧ (∀ s20 : xS, s20 = xpi s19 82 a4.toNatClampNeg (vp_nar .boolean 0) → (∀ x21 : Int32, x21 = a4 + 1 → K3 a1 a3 x21 s20)))))
def w_VectorSolverModel_search_3 (Q : xO → xS → Prop) : Nat → Int64 → Int32 → Int32 → xS → Prop
  | 0 => fun _ _ _ _ => False
  | n + 1 => fun a1 a3 a4 σ =>
    (((xi σ 50 11) ≤ a4 → ∃ m, w_VectorSolverModel_search_47 Q m a1 0 σ) ∧ (¬ (xi σ 50 11) ≤ a4 → ((¬ a4 = a3 → w_VectorSolverModel_search_29 Q (w_VectorSolverModel_search_3 Q n) a1 a3 a4 a4 0 σ) ∧ (a4 = a3 → w_VectorSolverModel_search_29 Q (w_VectorSolverModel_search_3 Q n) a1 a3 a4 a4 1 σ))))
def wp_VectorSolverModel_search (Q : xO → xS → Prop) (σ : xS) (a1 : Int64) (a3 : Int32) : Prop :=
  ∃ m, w_VectorSolverModel_search_3 Q m a1 a3 0 σ
set_option maxRecDepth 20000 in
theorem sw_VectorSolverModel_search_174 {γ : xG1} {d b0 : Nat} {Q : xO → xS → Prop} : ∀ (n : Nat) (a4 : Int64) (σ : xS), w_VectorSolverModel_search_174 Q n a4 σ → xJ (SHP, γ) Y_VectorSolverModel_search (d + 7) b0 174 [(0, .ref 50), (4, .long a4)] [] σ Q := by
  intro n
  induction n with
  | zero => intro a4 σ h; exact h.elim
  | succ n ih =>
    intro a4 σ h
    refine xJ.lload (o_VectorSolverModel_search 90 rfl) rfl ?_
    refine xJ.lconst (v := 1) (o_VectorSolverModel_search 91 rfl) (by decide) ?_
    refine xJ.aload_n (o_VectorSolverModel_search 92 rfl) rfl ?_
    refine xJ.getfield (o_VectorSolverModel_search 93 rfl) f_VectorSolverModel_249 rfl rfl ?_
    refine xJ.lshl (o_VectorSolverModel_search 94 rfl) rfl ?_
    refine xJ.lcmp (o_VectorSolverModel_search 95 rfl) ?_
    refine xJ.if_ge (tgt := 224) (o_VectorSolverModel_search 96 rfl) (by decide) (fun z => ?_) (fun z => ?_)
    · replace h := h.1 z
      refine xJ.iconst (v := 0) (o_VectorSolverModel_search 117 rfl) (by decide) ?_
      exact xJ.zreturn (o_VectorSolverModel_search 118 rfl) rfl (Or.inl rfl) h
    · replace h := h.2 z
      refine xJ.aload_n (o_VectorSolverModel_search 97 rfl) rfl ?_
      refine xJ.lload (o_VectorSolverModel_search 98 rfl) rfl ?_
      refine xJ.callV (Y' := Y_VectorSolverModel_lay1) (o_VectorSolverModel_search 99 rfl) m_VectorSolverModel_401 y_VectorSolverModel_lay1 im_VectorSolverModel_lay1 se_VectorSolverModel_lay1 rfl rfl (s_VectorSolverModel_lay1 h) rfl rfl (Nat.le_of_ble_eq_true rfl) (fun _ hx => by cases hx) (fun v u q => ?_) (fun n u q => q)
      obtain ⟨rfl, h⟩ := xqv_get q
      refine xJ.aload_n (o_VectorSolverModel_search 100 rfl) rfl ?_
      refine xJ.callV (Y' := Y_VectorSolverModel_workOut) (o_VectorSolverModel_search 101 rfl) m_VectorSolverModel_404 y_VectorSolverModel_workOut im_VectorSolverModel_workOut se_VectorSolverModel_workOut rfl rfl (s_VectorSolverModel_workOut h) rfl rfl (Nat.le_of_ble_eq_true rfl) (fun _ hx => by cases hx) (fun v u q => ?_) (fun n u q => q)
      obtain ⟨r, rfl, h⟩ := xqi_get q
      refine xJ.if_eq (tgt := 215) (o_VectorSolverModel_search 102 rfl) (by decide) (fun z => ?_) (fun z => ?_)
      · replace h := h.1 z
        refine xJ.lload (o_VectorSolverModel_search 112 rfl) rfl ?_
        refine xJ.lconst (v := 1) (o_VectorSolverModel_search 113 rfl) (by decide) ?_
        refine xJ.ladd (o_VectorSolverModel_search 114 rfl) ?_
        refine xJ.lstore (o_VectorSolverModel_search 115 rfl) (by decide) ?_
        replace h := h _ rfl
        refine xJ.goto (tgt := 174) (o_VectorSolverModel_search 116 rfl) (by decide) ?_
        exact xJ.lvs (by exact ⟨rfl, rfl, trivial⟩) (ih _ _ h)
      · replace h := h.2 z
        refine xJ.aload_n (o_VectorSolverModel_search 103 rfl) rfl ?_
        refine xJ.lload (o_VectorSolverModel_search 104 rfl) rfl ?_
        refine xJ.putL (o_VectorSolverModel_search 105 rfl) f_VectorSolverModel_407 rfl rfl rfl ?_
        replace h := h _ rfl
        refine xJ.aload_n (o_VectorSolverModel_search 106 rfl) rfl ?_
        refine xJ.aload_n (o_VectorSolverModel_search 107 rfl) rfl ?_
        refine xJ.getfield (o_VectorSolverModel_search 108 rfl) f_VectorSolverModel_249 rfl rfl ?_
        refine xJ.putI (o_VectorSolverModel_search 109 rfl) f_VectorSolverModel_410 rfl rfl rfl ?_
        replace h := h _ rfl
        refine xJ.iconst (v := 1) (o_VectorSolverModel_search 110 rfl) (by decide) ?_
        exact xJ.zreturn (o_VectorSolverModel_search 111 rfl) rfl (Or.inr rfl) h
set_option maxRecDepth 20000 in
theorem sw_VectorSolverModel_search_123 {γ : xG1} {d b0 : Nat} {Q : xO → xS → Prop} {K83 : Int64 → Int32 → xS → Prop} (hK83 : ∀ a1 a4 σ, K83 a1 a4 σ → xJ (SHP, γ) Y_VectorSolverModel_search (d + 7) b0 83 [(0, .ref 50), (1, .long a1), (4, .int a4)] [] σ Q) : ∀ (n : Nat) (a1 : Int64) (a4 : Int32) (a5 : Int32) (σ : xS), w_VectorSolverModel_search_123 Q K83 n a1 a4 a5 σ → xJ (SHP, γ) Y_VectorSolverModel_search (d + 7) b0 123 [(0, .ref 50), (1, .long a1), (4, .int a4), (5, .int a5)] [] σ Q := by
  intro n
  induction n with
  | zero => intro a1 a4 a5 σ h; exact h.elim
  | succ n ih =>
    intro a1 a4 a5 σ h
    refine xJ.iload (o_VectorSolverModel_search 65 rfl) rfl ?_
    refine xJ.aload_n (o_VectorSolverModel_search 66 rfl) rfl ?_
    refine xJ.getfield (o_VectorSolverModel_search 67 rfl) f_VectorSolverModel_50 rfl rfl ?_
    refine xJ.iload (o_VectorSolverModel_search 68 rfl) rfl ?_
    refine xJ.iaload (o_VectorSolverModel_search 69 rfl) rfl h.1 ?_
    replace h := h.2
    refine xJ.icmp_ge (tgt := 165) (o_VectorSolverModel_search 70 rfl) (by decide) (fun z => ?_) (fun z => ?_)
    · replace h := h.1 z
      refine xJ.iincC (w := (-1)) (o_VectorSolverModel_search 86 rfl) rfl (by decide) (by decide) ?_
      replace h := h _ rfl
      refine xJ.goto (tgt := 83) (o_VectorSolverModel_search 87 rfl) (by decide) ?_
      exact xJ.lvs (by exact ⟨rfl, rfl, rfl, trivial⟩) (hK83 _ _ _ h)
    · replace h := h.2 z
      refine xJ.aload_n (o_VectorSolverModel_search 71 rfl) rfl ?_
      refine xJ.getfield (o_VectorSolverModel_search 72 rfl) f_VectorSolverModel_119 rfl rfl ?_
      refine xJ.iload (o_VectorSolverModel_search 73 rfl) rfl ?_
      refine xJ.zaload (o_VectorSolverModel_search 74 rfl) rfl h.1 ?_
      replace h := h.2
      refine xJ.if_eq (tgt := 165) (o_VectorSolverModel_search 75 rfl) (by decide) (fun z => ?_) (fun z => ?_)
      · replace h := h.1 z
        refine xJ.iincC (w := (-1)) (o_VectorSolverModel_search 86 rfl) rfl (by decide) (by decide) ?_
        replace h := h _ rfl
        refine xJ.goto (tgt := 83) (o_VectorSolverModel_search 87 rfl) (by decide) ?_
        exact xJ.lvs (by exact ⟨rfl, rfl, rfl, trivial⟩) (hK83 _ _ _ h)
      · replace h := h.2 z
        refine xJ.aload_n (o_VectorSolverModel_search 76 rfl) rfl ?_
        refine xJ.getfield (o_VectorSolverModel_search 77 rfl) f_VectorSolverModel_119 rfl rfl ?_
        refine xJ.aload_n (o_VectorSolverModel_search 78 rfl) rfl ?_
        refine xJ.iload (o_VectorSolverModel_search 79 rfl) rfl ?_
        refine xJ.iload (o_VectorSolverModel_search 80 rfl) rfl ?_
        refine xJ.callV (Y' := Y_VectorSolverModel_of) (o_VectorSolverModel_search 81 rfl) m_VectorSolverModel_358 y_VectorSolverModel_of im_VectorSolverModel_of se_VectorSolverModel_of rfl rfl (s_VectorSolverModel_of h) rfl rfl (Nat.le_of_ble_eq_true rfl) (fun _ hx => by cases hx) (fun v u q => ?_) (fun n u q => q)
        obtain ⟨r, rfl, h⟩ := xqi_get q
        refine xJ.iconst (v := 1) (o_VectorSolverModel_search 82 rfl) (by decide) ?_
        refine xJ.zastore (o_VectorSolverModel_search 83 rfl) rfl h.1 ?_
        replace h := h.2
        replace h := h _ rfl
        refine xJ.iincC (w := 1) (o_VectorSolverModel_search 84 rfl) rfl (by decide) (by decide) ?_
        replace h := h _ rfl
        refine xJ.goto (tgt := 123) (o_VectorSolverModel_search 85 rfl) (by decide) ?_
        exact xJ.lvs (by exact ⟨rfl, rfl, rfl, rfl, trivial⟩) (ih _ _ _ _ h)
set_option maxRecDepth 20000 in
theorem sw_VectorSolverModel_search_114 {γ : xG1} {d b0 : Nat} {Q : xO → xS → Prop} {K83 : Int64 → Int32 → xS → Prop} (hK83 : ∀ a1 a4 σ, K83 a1 a4 σ → xJ (SHP, γ) Y_VectorSolverModel_search (d + 7) b0 83 [(0, .ref 50), (1, .long a1), (4, .int a4)] [] σ Q) {a1 : Int64} {a4 : Int32} {t1 : Int32} {σ : xS} (h : w_VectorSolverModel_search_114 Q K83 a1 a4 t1 σ) : xJ (SHP, γ) Y_VectorSolverModel_search (d + 7) b0 114 [(0, .ref 50), (1, .long a1), (4, .int a4)] [.int t1, .ref 82] σ Q := by
  refine xJ.iconst (v := 1) (o_VectorSolverModel_search 59 rfl) (by decide) ?_
  refine xJ.goto (tgt := 119) (o_VectorSolverModel_search 60 rfl) (by decide) ?_
  refine xJ.zastore (o_VectorSolverModel_search 62 rfl) rfl h.1 ?_
  replace h := h.2
  replace h := h _ rfl
  refine xJ.iconst (v := 0) (o_VectorSolverModel_search 63 rfl) (by decide) ?_
  refine xJ.istore (o_VectorSolverModel_search 64 rfl) (by decide) ?_
  obtain ⟨m, h⟩ := h
  exact xJ.lvs (by exact ⟨rfl, rfl, rfl, rfl, trivial⟩) (sw_VectorSolverModel_search_123 hK83 m _ _ _ _ h)
set_option maxRecDepth 20000 in
theorem sw_VectorSolverModel_search_83 {γ : xG1} {d b0 : Nat} {Q : xO → xS → Prop} : ∀ (n : Nat) (a1 : Int64) (a4 : Int32) (σ : xS), w_VectorSolverModel_search_83 Q n a1 a4 σ → xJ (SHP, γ) Y_VectorSolverModel_search (d + 7) b0 83 [(0, .ref 50), (1, .long a1), (4, .int a4)] [] σ Q := by
  intro n
  induction n with
  | zero => intro a1 a4 σ h; exact h.elim
  | succ n ih =>
    intro a1 a4 σ h
    refine xJ.iload (o_VectorSolverModel_search 44 rfl) rfl ?_
    refine xJ.if_lt (tgt := 171) (o_VectorSolverModel_search 45 rfl) (by decide) (fun z => ?_) (fun z => ?_)
    · replace h := h.1 z
      refine xJ.lload_n (o_VectorSolverModel_search 88 rfl) rfl ?_
      refine xJ.lstore (o_VectorSolverModel_search 89 rfl) (by decide) ?_
      obtain ⟨m, h⟩ := h
      exact xJ.lvs (by exact ⟨rfl, rfl, trivial⟩) (sw_VectorSolverModel_search_174 m _ _ h)
    · replace h := h.2 z
      refine xJ.aload_n (o_VectorSolverModel_search 46 rfl) rfl ?_
      refine xJ.getfield (o_VectorSolverModel_search 47 rfl) f_VectorSolverModel_119 rfl rfl ?_
      refine xJ.iload (o_VectorSolverModel_search 48 rfl) rfl ?_
      refine xJ.aload_n (o_VectorSolverModel_search 49 rfl) rfl ?_
      refine xJ.getfield (o_VectorSolverModel_search 50 rfl) f_VectorSolverModel_119 rfl rfl ?_
      refine xJ.iload (o_VectorSolverModel_search 51 rfl) rfl ?_
      refine xJ.zaload (o_VectorSolverModel_search 52 rfl) rfl h.1 ?_
      replace h := h.2
      refine xJ.if_ne (tgt := 114) (o_VectorSolverModel_search 53 rfl) (by decide) (fun z => ?_) (fun z => ?_)
      · replace h := h.1 z
        exact xJ.lvs (by exact ⟨rfl, rfl, rfl, trivial⟩) (sw_VectorSolverModel_search_114 ih h)
      · replace h := h.2 z
        refine xJ.aload_n (o_VectorSolverModel_search 54 rfl) rfl ?_
        refine xJ.getfield (o_VectorSolverModel_search 55 rfl) f_VectorSolverModel_123 rfl rfl ?_
        refine xJ.iload (o_VectorSolverModel_search 56 rfl) rfl ?_
        refine xJ.zaload (o_VectorSolverModel_search 57 rfl) rfl h.1 ?_
        replace h := h.2
        refine xJ.if_eq (tgt := 118) (o_VectorSolverModel_search 58 rfl) (by decide) (fun z => ?_) (fun z => ?_)
        · replace h := h.1 z
          refine xJ.iconst (v := 0) (o_VectorSolverModel_search 61 rfl) (by decide) ?_
          refine xJ.zastore (o_VectorSolverModel_search 62 rfl) rfl h.1 ?_
          replace h := h.2
          replace h := h _ rfl
          refine xJ.iconst (v := 0) (o_VectorSolverModel_search 63 rfl) (by decide) ?_
          refine xJ.istore (o_VectorSolverModel_search 64 rfl) (by decide) ?_
          obtain ⟨m, h⟩ := h
          exact xJ.lvs (by exact ⟨rfl, rfl, rfl, rfl, trivial⟩) (sw_VectorSolverModel_search_123 ih m _ _ _ _ h)
        · replace h := h.2 z
          exact xJ.lvs (by exact ⟨rfl, rfl, rfl, trivial⟩) (sw_VectorSolverModel_search_114 ih h)
set_option maxRecDepth 20000 in
theorem sw_VectorSolverModel_search_47 {γ : xG1} {d b0 : Nat} {Q : xO → xS → Prop} : ∀ (n : Nat) (a1 : Int64) (a4 : Int32) (σ : xS), w_VectorSolverModel_search_47 Q n a1 a4 σ → xJ (SHP, γ) Y_VectorSolverModel_search (d + 7) b0 47 [(0, .ref 50), (1, .long a1), (4, .int a4)] [] σ Q := by
  intro n
  induction n with
  | zero => intro a1 a4 σ h; exact h.elim
  | succ n ih =>
    intro a1 a4 σ h
    refine xJ.iload (o_VectorSolverModel_search 25 rfl) rfl ?_
    refine xJ.aload_n (o_VectorSolverModel_search 26 rfl) rfl ?_
    refine xJ.getfield (o_VectorSolverModel_search 27 rfl) f_VectorSolverModel_255 rfl rfl ?_
    refine xJ.icmp_ge (tgt := 75) (o_VectorSolverModel_search 28 rfl) (by decide) (fun z => ?_) (fun z => ?_)
    · replace h := h.1 z
      refine xJ.aload_n (o_VectorSolverModel_search 39 rfl) rfl ?_
      refine xJ.getfield (o_VectorSolverModel_search 40 rfl) f_VectorSolverModel_220 rfl rfl ?_
      refine xJ.iconst (v := 1) (o_VectorSolverModel_search 41 rfl) (by decide) ?_
      refine xJ.isub (o_VectorSolverModel_search 42 rfl) ?_
      refine xJ.istore (o_VectorSolverModel_search 43 rfl) (by decide) ?_
      replace h := h _ rfl
      obtain ⟨m, h⟩ := h
      exact xJ.lvs (by exact ⟨rfl, rfl, rfl, trivial⟩) (sw_VectorSolverModel_search_83 m _ _ _ h)
    · replace h := h.2 z
      refine xJ.aload_n (o_VectorSolverModel_search 29 rfl) rfl ?_
      refine xJ.getfield (o_VectorSolverModel_search 30 rfl) f_VectorSolverModel_123 rfl rfl ?_
      refine xJ.aload_n (o_VectorSolverModel_search 31 rfl) rfl ?_
      refine xJ.getfield (o_VectorSolverModel_search 32 rfl) f_VectorSolverModel_79 rfl rfl ?_
      refine xJ.iload (o_VectorSolverModel_search 33 rfl) rfl ?_
      refine xJ.iaload (o_VectorSolverModel_search 34 rfl) rfl h.1 ?_
      replace h := h.2
      refine xJ.iconst (v := 1) (o_VectorSolverModel_search 35 rfl) (by decide) ?_
      refine xJ.zastore (o_VectorSolverModel_search 36 rfl) rfl h.1 ?_
      replace h := h.2
      replace h := h _ rfl
      refine xJ.iincC (w := 1) (o_VectorSolverModel_search 37 rfl) rfl (by decide) (by decide) ?_
      replace h := h _ rfl
      refine xJ.goto (tgt := 47) (o_VectorSolverModel_search 38 rfl) (by decide) ?_
      exact xJ.lvs (by exact ⟨rfl, rfl, rfl, trivial⟩) (ih _ _ _ h)
set_option maxRecDepth 20000 in
theorem sw_VectorSolverModel_search_29 {γ : xG1} {d b0 : Nat} {Q : xO → xS → Prop} {K3 : Int64 → Int32 → Int32 → xS → Prop} (hK3 : ∀ a1 a3 a4 σ, K3 a1 a3 a4 σ → xJ (SHP, γ) Y_VectorSolverModel_search (d + 7) b0 3 [(0, .ref 50), (1, .long a1), (3, .int a3), (4, .int a4)] [] σ Q) {a1 : Int64} {a3 : Int32} {a4 : Int32} {t1 : Int32} {t2 : Int32} {σ : xS} (h : w_VectorSolverModel_search_29 Q K3 a1 a3 a4 t1 t2 σ) : xJ (SHP, γ) Y_VectorSolverModel_search (d + 7) b0 29 [(0, .ref 50), (1, .long a1), (3, .int a3), (4, .int a4)] [.int t2, .int t1, .ref 83] σ Q := by
  refine xJ.zastore (o_VectorSolverModel_search 15 rfl) rfl h.1 ?_
  replace h := h.2
  replace h := h _ rfl
  refine xJ.aload_n (o_VectorSolverModel_search 16 rfl) rfl ?_
  refine xJ.getfield (o_VectorSolverModel_search 17 rfl) f_VectorSolverModel_119 rfl rfl ?_
  refine xJ.iload (o_VectorSolverModel_search 18 rfl) rfl ?_
  refine xJ.iconst (v := 0) (o_VectorSolverModel_search 19 rfl) (by decide) ?_
  refine xJ.zastore (o_VectorSolverModel_search 20 rfl) rfl h.1 ?_
  replace h := h.2
  replace h := h _ rfl
  refine xJ.iincC (w := 1) (o_VectorSolverModel_search 21 rfl) rfl (by decide) (by decide) ?_
  replace h := h _ rfl
  refine xJ.goto (tgt := 3) (o_VectorSolverModel_search 22 rfl) (by decide) ?_
  exact xJ.lvs (by exact ⟨rfl, rfl, rfl, rfl, trivial⟩) (hK3 _ _ _ _ h)
set_option maxRecDepth 20000 in
theorem sw_VectorSolverModel_search_3 {γ : xG1} {d b0 : Nat} {Q : xO → xS → Prop} : ∀ (n : Nat) (a1 : Int64) (a3 : Int32) (a4 : Int32) (σ : xS), w_VectorSolverModel_search_3 Q n a1 a3 a4 σ → xJ (SHP, γ) Y_VectorSolverModel_search (d + 7) b0 3 [(0, .ref 50), (1, .long a1), (3, .int a3), (4, .int a4)] [] σ Q := by
  intro n
  induction n with
  | zero => intro a1 a3 a4 σ h; exact h.elim
  | succ n ih =>
    intro a1 a3 a4 σ h
    refine xJ.iload (o_VectorSolverModel_search 2 rfl) rfl ?_
    refine xJ.aload_n (o_VectorSolverModel_search 3 rfl) rfl ?_
    refine xJ.getfield (o_VectorSolverModel_search 4 rfl) f_VectorSolverModel_220 rfl rfl ?_
    refine xJ.icmp_ge (tgt := 44) (o_VectorSolverModel_search 5 rfl) (by decide) (fun z => ?_) (fun z => ?_)
    · replace h := h.1 z
      refine xJ.iconst (v := 0) (o_VectorSolverModel_search 23 rfl) (by decide) ?_
      refine xJ.istore (o_VectorSolverModel_search 24 rfl) (by decide) ?_
      obtain ⟨m, h⟩ := h
      exact xJ.lvs (by exact ⟨rfl, rfl, rfl, trivial⟩) (sw_VectorSolverModel_search_47 m _ _ _ h)
    · replace h := h.2 z
      refine xJ.aload_n (o_VectorSolverModel_search 6 rfl) rfl ?_
      refine xJ.getfield (o_VectorSolverModel_search 7 rfl) f_VectorSolverModel_123 rfl rfl ?_
      refine xJ.iload (o_VectorSolverModel_search 8 rfl) rfl ?_
      refine xJ.iload (o_VectorSolverModel_search 9 rfl) rfl ?_
      refine xJ.iload_n (o_VectorSolverModel_search 10 rfl) rfl ?_
      refine xJ.icmp_ne (tgt := 28) (o_VectorSolverModel_search 11 rfl) (by decide) (fun z => ?_) (fun z => ?_)
      · replace h := h.1 z
        refine xJ.iconst (v := 0) (o_VectorSolverModel_search 14 rfl) (by decide) ?_
        exact xJ.lvs (by exact ⟨rfl, rfl, rfl, rfl, trivial⟩) (sw_VectorSolverModel_search_29 ih h)
      · replace h := h.2 z
        refine xJ.iconst (v := 1) (o_VectorSolverModel_search 12 rfl) (by decide) ?_
        refine xJ.goto (tgt := 29) (o_VectorSolverModel_search 13 rfl) (by decide) ?_
        exact xJ.lvs (by exact ⟨rfl, rfl, rfl, rfl, trivial⟩) (sw_VectorSolverModel_search_29 ih h)
set_option maxRecDepth 20000 in
theorem s_VectorSolverModel_search {γ : xG1} {d : Nat} {Q : xO → xS → Prop} {σ : xS} {a1 : Int64} {a3 : Int32} (h : wp_VectorSolverModel_search Q σ a1 a3) : xM (SHP, γ) Y_VectorSolverModel_search (d + 7) [.ref 50, .long a1, .int a3] σ Q := by
  refine xM.of (by decide) (Nat.le_of_ble_eq_true rfl) ?_
  refine xJ.iconst (v := 0) (o_VectorSolverModel_search 0 rfl) (by decide) ?_
  refine xJ.istore (o_VectorSolverModel_search 1 rfl) (by decide) ?_
  obtain ⟨m, h⟩ := h
  exact xJ.lvs (by exact ⟨rfl, rfl, rfl, rfl, trivial⟩) (sw_VectorSolverModel_search_3 m _ _ _ _ h)
def w_VectorSolverModel_check_13 (Q : xO → xS → Prop) (t1 : Int32) (σ : xS) : Prop :=
  (∀ s3 : xS, s3 = xpi σ 50 1 t1 → (((xi s3 50 1) ≤ 0 → wp_VectorSolverModel_search (xqi (fun r5 u4 => ((r5 = 0 ∨ r5 = 1) ∧ (∀ s6 : xS, s6 = xpi u4 50 50 r5 → (((xi s6 50 50) = 0 ∨ (xi s6 50 50) = 1) ∧ Q (.inl (some (.int (xi s6 50 50)))) s6)))) (fun n u => Q (.inr n) u)) s3 0 (-1)) ∧ (¬ (xi s3 50 1) ≤ 0 → Q (.inl (some (.int 0))) s3)))
def wp_VectorSolverModel_check (Q : xO → xS → Prop) (σ : xS)  : Prop :=
  wp_VectorSolverModel_pay (xqi (fun r2 u1 => ((r2 = 0 → w_VectorSolverModel_check_13 Q 1 u1) ∧ (¬ r2 = 0 → w_VectorSolverModel_check_13 Q 0 u1))) (fun n u => Q (.inr n) u)) σ 
set_option maxRecDepth 20000 in
theorem sw_VectorSolverModel_check_13 {γ : xG1} {d b0 : Nat} {Q : xO → xS → Prop} {t1 : Int32} {σ : xS} (h : w_VectorSolverModel_check_13 Q t1 σ) : xJ (SHP, γ) Y_VectorSolverModel_check (d + 8) b0 13 [(0, .ref 50)] [.int t1, .ref 50] σ Q := by
  refine xJ.putI (o_VectorSolverModel_check 7 rfl) f_VectorSolverModel_126 rfl rfl rfl ?_
  replace h := h _ rfl
  refine xJ.aload_n (o_VectorSolverModel_check 8 rfl) rfl ?_
  refine xJ.getfield (o_VectorSolverModel_check 9 rfl) f_VectorSolverModel_126 rfl rfl ?_
  refine xJ.if_le (tgt := 25) (o_VectorSolverModel_check 10 rfl) (by decide) (fun z => ?_) (fun z => ?_)
  · replace h := h.1 z
    refine xJ.aload_n (o_VectorSolverModel_check 13 rfl) rfl ?_
    refine xJ.aload_n (o_VectorSolverModel_check 14 rfl) rfl ?_
    refine xJ.lconst (v := 0) (o_VectorSolverModel_check 15 rfl) (by decide) ?_
    refine xJ.iconst (v := (-1)) (o_VectorSolverModel_check 16 rfl) (by decide) ?_
    refine xJ.callV (Y' := Y_VectorSolverModel_search) (o_VectorSolverModel_check 17 rfl) m_VectorSolverModel_416 y_VectorSolverModel_search im_VectorSolverModel_search se_VectorSolverModel_search rfl rfl (s_VectorSolverModel_search h) rfl rfl (Nat.le_of_ble_eq_true rfl) (fun _ hx => by cases hx) (fun v u q => ?_) (fun n u q => q)
    obtain ⟨r, rfl, h⟩ := xqi_get q
    refine xJ.putZ (o_VectorSolverModel_check 18 rfl) f_VectorSolverModel_420 rfl rfl rfl h.1 ?_
    replace h := h.2
    replace h := h _ rfl
    refine xJ.aload_n (o_VectorSolverModel_check 19 rfl) rfl ?_
    refine xJ.getfield (o_VectorSolverModel_check 20 rfl) f_VectorSolverModel_420 rfl rfl ?_
    exact xJ.zreturn (o_VectorSolverModel_check 21 rfl) rfl h.1 h.2
  · replace h := h.2 z
    refine xJ.iconst (v := 0) (o_VectorSolverModel_check 11 rfl) (by decide) ?_
    exact xJ.zreturn (o_VectorSolverModel_check 12 rfl) rfl (Or.inl rfl) h
set_option maxRecDepth 20000 in
theorem s_VectorSolverModel_check {γ : xG1} {d : Nat} {Q : xO → xS → Prop} {σ : xS}  (h : wp_VectorSolverModel_check Q σ ) : xM (SHP, γ) Y_VectorSolverModel_check (d + 8) [.ref 50] σ Q := by
  refine xM.of (by decide) (Nat.le_of_ble_eq_true rfl) ?_
  refine xJ.aload_n (o_VectorSolverModel_check 0 rfl) rfl ?_
  refine xJ.aload_n (o_VectorSolverModel_check 1 rfl) rfl ?_
  refine xJ.callV (Y' := Y_VectorSolverModel_pay) (o_VectorSolverModel_check 2 rfl) m_VectorSolverModel_413 y_VectorSolverModel_pay im_VectorSolverModel_pay se_VectorSolverModel_pay rfl rfl (s_VectorSolverModel_pay h) rfl rfl (Nat.le_of_ble_eq_true rfl) (fun _ hx => by cases hx) (fun v u q => ?_) (fun n u q => q)
  obtain ⟨r, rfl, h⟩ := xqi_get q
  refine xJ.if_eq (tgt := 12) (o_VectorSolverModel_check 3 rfl) (by decide) (fun z => ?_) (fun z => ?_)
  · replace h := h.1 z
    refine xJ.iconst (v := 1) (o_VectorSolverModel_check 6 rfl) (by decide) ?_
    exact xJ.lvs (by exact ⟨rfl, trivial⟩) (sw_VectorSolverModel_check_13 h)
  · replace h := h.2 z
    refine xJ.iconst (v := 0) (o_VectorSolverModel_check 4 rfl) (by decide) ?_
    refine xJ.goto (tgt := 13) (o_VectorSolverModel_check 5 rfl) (by decide) ?_
    exact xJ.lvs (by exact ⟨rfl, trivial⟩) (sw_VectorSolverModel_check_13 h)
def w_VectorSolverModel_more_54 (Q : xO → xS → Prop) (t2 : Int64) (σ : xS) : Prop :=
  wp_VectorSolverModel_search (xqi (fun r5 u4 => ((r5 = 0 ∨ r5 = 1) ∧ (∀ s6 : xS, s6 = xpi u4 50 50 r5 → (((xi s6 50 50) = 0 ∨ (xi s6 50 50) = 1) ∧ Q (.inl (some (.int (xi s6 50 50)))) s6)))) (fun n u => Q (.inr n) u)) σ t2 (-1)
def w_VectorSolverModel_more_13 (Q : xO → xS → Prop) (t1 : Int32) (σ : xS) : Prop :=
  (∀ s3 : xS, s3 = xpi σ 50 1 t1 → (((xi s3 50 1) ≤ 0 → (((xi s3 50 50) = 0 → w_VectorSolverModel_more_54 Q 0 s3) ∧ (¬ (xi s3 50 50) = 0 → w_VectorSolverModel_more_54 Q ((jlshl (xl s3 50 51) ((xi s3 50 45) - (xi s3 50 52))) + 1) s3))) ∧ (¬ (xi s3 50 1) ≤ 0 → Q (.inl (some (.int 0))) s3)))
def wp_VectorSolverModel_more (Q : xO → xS → Prop) (σ : xS)  : Prop :=
  wp_VectorSolverModel_pay (xqi (fun r2 u1 => ((r2 = 0 → w_VectorSolverModel_more_13 Q 1 u1) ∧ (¬ r2 = 0 → w_VectorSolverModel_more_13 Q 0 u1))) (fun n u => Q (.inr n) u)) σ 
set_option maxRecDepth 20000 in
theorem sw_VectorSolverModel_more_54 {γ : xG1} {d b0 : Nat} {Q : xO → xS → Prop} {t2 : Int64} {σ : xS} (h : w_VectorSolverModel_more_54 Q t2 σ) : xJ (SHP, γ) Y_VectorSolverModel_more (d + 8) b0 54 [(0, .ref 50)] [.long t2, .ref 50, .ref 50] σ Q := by
  refine xJ.iconst (v := (-1)) (o_VectorSolverModel_more 30 rfl) (by decide) ?_
  refine xJ.callV (Y' := Y_VectorSolverModel_search) (o_VectorSolverModel_more 31 rfl) m_VectorSolverModel_416 y_VectorSolverModel_search im_VectorSolverModel_search se_VectorSolverModel_search rfl rfl (s_VectorSolverModel_search h) rfl rfl (Nat.le_of_ble_eq_true rfl) (fun _ hx => by cases hx) (fun v u q => ?_) (fun n u q => q)
  obtain ⟨r, rfl, h⟩ := xqi_get q
  refine xJ.putZ (o_VectorSolverModel_more 32 rfl) f_VectorSolverModel_420 rfl rfl rfl h.1 ?_
  replace h := h.2
  replace h := h _ rfl
  refine xJ.aload_n (o_VectorSolverModel_more 33 rfl) rfl ?_
  refine xJ.getfield (o_VectorSolverModel_more 34 rfl) f_VectorSolverModel_420 rfl rfl ?_
  exact xJ.zreturn (o_VectorSolverModel_more 35 rfl) rfl h.1 h.2
set_option maxRecDepth 20000 in
theorem sw_VectorSolverModel_more_13 {γ : xG1} {d b0 : Nat} {Q : xO → xS → Prop} {t1 : Int32} {σ : xS} (h : w_VectorSolverModel_more_13 Q t1 σ) : xJ (SHP, γ) Y_VectorSolverModel_more (d + 8) b0 13 [(0, .ref 50)] [.int t1, .ref 50] σ Q := by
  refine xJ.putI (o_VectorSolverModel_more 7 rfl) f_VectorSolverModel_126 rfl rfl rfl ?_
  replace h := h _ rfl
  refine xJ.aload_n (o_VectorSolverModel_more 8 rfl) rfl ?_
  refine xJ.getfield (o_VectorSolverModel_more 9 rfl) f_VectorSolverModel_126 rfl rfl ?_
  refine xJ.if_le (tgt := 25) (o_VectorSolverModel_more 10 rfl) (by decide) (fun z => ?_) (fun z => ?_)
  · replace h := h.1 z
    refine xJ.aload_n (o_VectorSolverModel_more 13 rfl) rfl ?_
    refine xJ.aload_n (o_VectorSolverModel_more 14 rfl) rfl ?_
    refine xJ.aload_n (o_VectorSolverModel_more 15 rfl) rfl ?_
    refine xJ.getfield (o_VectorSolverModel_more 16 rfl) f_VectorSolverModel_420 rfl rfl ?_
    refine xJ.if_eq (tgt := 53) (o_VectorSolverModel_more 17 rfl) (by decide) (fun z => ?_) (fun z => ?_)
    · replace h := h.1 z
      refine xJ.lconst (v := 0) (o_VectorSolverModel_more 29 rfl) (by decide) ?_
      exact xJ.lvs (by exact ⟨rfl, trivial⟩) (sw_VectorSolverModel_more_54 h)
    · replace h := h.2 z
      refine xJ.aload_n (o_VectorSolverModel_more 18 rfl) rfl ?_
      refine xJ.getfield (o_VectorSolverModel_more 19 rfl) f_VectorSolverModel_407 rfl rfl ?_
      refine xJ.aload_n (o_VectorSolverModel_more 20 rfl) rfl ?_
      refine xJ.getfield (o_VectorSolverModel_more 21 rfl) f_VectorSolverModel_249 rfl rfl ?_
      refine xJ.aload_n (o_VectorSolverModel_more 22 rfl) rfl ?_
      refine xJ.getfield (o_VectorSolverModel_more 23 rfl) f_VectorSolverModel_410 rfl rfl ?_
      refine xJ.isub (o_VectorSolverModel_more 24 rfl) ?_
      refine xJ.lshl (o_VectorSolverModel_more 25 rfl) rfl ?_
      refine xJ.lconst (v := 1) (o_VectorSolverModel_more 26 rfl) (by decide) ?_
      refine xJ.ladd (o_VectorSolverModel_more 27 rfl) ?_
      refine xJ.goto (tgt := 54) (o_VectorSolverModel_more 28 rfl) (by decide) ?_
      exact xJ.lvs (by exact ⟨rfl, trivial⟩) (sw_VectorSolverModel_more_54 h)
  · replace h := h.2 z
    refine xJ.iconst (v := 0) (o_VectorSolverModel_more 11 rfl) (by decide) ?_
    exact xJ.zreturn (o_VectorSolverModel_more 12 rfl) rfl (Or.inl rfl) h
set_option maxRecDepth 20000 in
theorem s_VectorSolverModel_more {γ : xG1} {d : Nat} {Q : xO → xS → Prop} {σ : xS}  (h : wp_VectorSolverModel_more Q σ ) : xM (SHP, γ) Y_VectorSolverModel_more (d + 8) [.ref 50] σ Q := by
  refine xM.of (by decide) (Nat.le_of_ble_eq_true rfl) ?_
  refine xJ.aload_n (o_VectorSolverModel_more 0 rfl) rfl ?_
  refine xJ.aload_n (o_VectorSolverModel_more 1 rfl) rfl ?_
  refine xJ.callV (Y' := Y_VectorSolverModel_pay) (o_VectorSolverModel_more 2 rfl) m_VectorSolverModel_413 y_VectorSolverModel_pay im_VectorSolverModel_pay se_VectorSolverModel_pay rfl rfl (s_VectorSolverModel_pay h) rfl rfl (Nat.le_of_ble_eq_true rfl) (fun _ hx => by cases hx) (fun v u q => ?_) (fun n u q => q)
  obtain ⟨r, rfl, h⟩ := xqi_get q
  refine xJ.if_eq (tgt := 12) (o_VectorSolverModel_more 3 rfl) (by decide) (fun z => ?_) (fun z => ?_)
  · replace h := h.1 z
    refine xJ.iconst (v := 1) (o_VectorSolverModel_more 6 rfl) (by decide) ?_
    exact xJ.lvs (by exact ⟨rfl, trivial⟩) (sw_VectorSolverModel_more_13 h)
  · replace h := h.2 z
    refine xJ.iconst (v := 0) (o_VectorSolverModel_more 4 rfl) (by decide) ?_
    refine xJ.goto (tgt := 13) (o_VectorSolverModel_more 5 rfl) (by decide) ?_
    exact xJ.lvs (by exact ⟨rfl, trivial⟩) (sw_VectorSolverModel_more_13 h)
def w_VectorSolverModel_suppose_81 (Q : xO → xS → Prop) (a1 : Int32) (t1 : Int32) (σ : xS) : Prop :=
  (∀ s4 : xS, s4 = xpi σ 50 1 t1 → (((xi s4 50 1) ≤ 0 → (vp_in a1 500 ∧ wp_VectorSolverModel_search (xqi (fun r6 u5 => ((r6 = 0 ∨ r6 = 1) ∧ (∀ s7 : xS, s7 = xpi u5 50 50 r6 → (((xi s7 50 50) = 0 ∨ (xi s7 50 50) = 1) ∧ Q (.inl (some (.int (xi s7 50 50)))) s7)))) (fun n u => Q (.inr n) u)) s4 0 (xi s4 67 a1.toNatClampNeg))) ∧ (¬ (xi s4 50 1) ≤ 0 → Q (.inl (some (.int 0))) s4)))
def w_VectorSolverModel_suppose_56 (Q : xO → xS → Prop) (a1 : Int32) (t1 : Int32) (σ : xS) : Prop :=
  (∀ s1 : xS, s1 = xpi σ 50 1 t1 → (((xi s1 50 1) ≤ 0 → wp_VectorSolverModel_pay (xqi (fun r3 u2 => ((r3 = 0 → w_VectorSolverModel_suppose_81 Q a1 2 u2) ∧ (¬ r3 = 0 → w_VectorSolverModel_suppose_81 Q a1 0 u2))) (fun n u => Q (.inr n) u)) s1 ) ∧ (¬ (xi s1 50 1) ≤ 0 → Q (.inl (some (.int 0))) s1)))
def w_VectorSolverModel_suppose_45 (Q : xO → xS → Prop) (a1 : Int32) (t0 : Int32) (σ : xS) : Prop :=
  ((¬ t0 = 0 → w_VectorSolverModel_suppose_56 Q a1 0 σ) ∧ (t0 = 0 → w_VectorSolverModel_suppose_56 Q a1 1 σ))
def w_VectorSolverModel_suppose_44 (Q : xO → xS → Prop) (a1 : Int32) (σ : xS) : Prop :=
  w_VectorSolverModel_suppose_45 Q a1 0 σ
def wp_VectorSolverModel_suppose (Q : xO → xS → Prop) (σ : xS) (a1 : Int32) : Prop :=
  ((a1 < 0 → w_VectorSolverModel_suppose_44 Q a1 σ) ∧ (¬ a1 < 0 → (((xi σ 50 23) ≤ a1 → w_VectorSolverModel_suppose_44 Q a1 σ) ∧ (¬ (xi σ 50 23) ≤ a1 → (vp_in a1 500 ∧ (vp_in (xi σ 67 a1.toNatClampNeg) 2000 ∧ ((¬ (xi σ 57 (xi σ 67 a1.toNatClampNeg).toNatClampNeg) = 0 → w_VectorSolverModel_suppose_44 Q a1 σ) ∧ ((xi σ 57 (xi σ 67 a1.toNatClampNeg).toNatClampNeg) = 0 → (vp_in a1 500 ∧ (vp_in (xi σ 67 a1.toNatClampNeg) 2000 ∧ ((¬ (xi σ 58 (xi σ 67 a1.toNatClampNeg).toNatClampNeg) = 0 → w_VectorSolverModel_suppose_44 Q a1 σ) ∧ ((xi σ 58 (xi σ 67 a1.toNatClampNeg).toNatClampNeg) = 0 → w_VectorSolverModel_suppose_45 Q a1 1 σ))))))))))))
set_option maxRecDepth 20000 in
theorem sw_VectorSolverModel_suppose_81 {γ : xG1} {d b0 : Nat} {Q : xO → xS → Prop} {a1 : Int32} {t1 : Int32} {σ : xS} (h : w_VectorSolverModel_suppose_81 Q a1 t1 σ) : xJ (SHP, γ) Y_VectorSolverModel_suppose (d + 8) b0 81 [(0, .ref 50), (1, .int a1)] [.int t1, .ref 50] σ Q := by
  refine xJ.putI (o_VectorSolverModel_suppose 45 rfl) f_VectorSolverModel_126 rfl rfl rfl ?_
  replace h := h _ rfl
  refine xJ.aload_n (o_VectorSolverModel_suppose 46 rfl) rfl ?_
  refine xJ.getfield (o_VectorSolverModel_suppose 47 rfl) f_VectorSolverModel_126 rfl rfl ?_
  refine xJ.if_le (tgt := 93) (o_VectorSolverModel_suppose 48 rfl) (by decide) (fun z => ?_) (fun z => ?_)
  · replace h := h.1 z
    refine xJ.aload_n (o_VectorSolverModel_suppose 51 rfl) rfl ?_
    refine xJ.aload_n (o_VectorSolverModel_suppose 52 rfl) rfl ?_
    refine xJ.lconst (v := 0) (o_VectorSolverModel_suppose 53 rfl) (by decide) ?_
    refine xJ.aload_n (o_VectorSolverModel_suppose 54 rfl) rfl ?_
    refine xJ.getfield (o_VectorSolverModel_suppose 55 rfl) f_VectorSolverModel_73 rfl rfl ?_
    refine xJ.iload_n (o_VectorSolverModel_suppose 56 rfl) rfl ?_
    refine xJ.iaload (o_VectorSolverModel_suppose 57 rfl) rfl h.1 ?_
    replace h := h.2
    refine xJ.callV (Y' := Y_VectorSolverModel_search) (o_VectorSolverModel_suppose 58 rfl) m_VectorSolverModel_416 y_VectorSolverModel_search im_VectorSolverModel_search se_VectorSolverModel_search rfl rfl (s_VectorSolverModel_search h) rfl rfl (Nat.le_of_ble_eq_true rfl) (fun _ hx => by cases hx) (fun v u q => ?_) (fun n u q => q)
    obtain ⟨r, rfl, h⟩ := xqi_get q
    refine xJ.putZ (o_VectorSolverModel_suppose 59 rfl) f_VectorSolverModel_420 rfl rfl rfl h.1 ?_
    replace h := h.2
    replace h := h _ rfl
    refine xJ.aload_n (o_VectorSolverModel_suppose 60 rfl) rfl ?_
    refine xJ.getfield (o_VectorSolverModel_suppose 61 rfl) f_VectorSolverModel_420 rfl rfl ?_
    exact xJ.zreturn (o_VectorSolverModel_suppose 62 rfl) rfl h.1 h.2
  · replace h := h.2 z
    refine xJ.iconst (v := 0) (o_VectorSolverModel_suppose 49 rfl) (by decide) ?_
    exact xJ.zreturn (o_VectorSolverModel_suppose 50 rfl) rfl (Or.inl rfl) h
set_option maxRecDepth 20000 in
theorem sw_VectorSolverModel_suppose_56 {γ : xG1} {d b0 : Nat} {Q : xO → xS → Prop} {a1 : Int32} {t1 : Int32} {σ : xS} (h : w_VectorSolverModel_suppose_56 Q a1 t1 σ) : xJ (SHP, γ) Y_VectorSolverModel_suppose (d + 8) b0 56 [(0, .ref 50), (1, .int a1)] [.int t1, .ref 50] σ Q := by
  refine xJ.putI (o_VectorSolverModel_suppose 32 rfl) f_VectorSolverModel_126 rfl rfl rfl ?_
  replace h := h _ rfl
  refine xJ.aload_n (o_VectorSolverModel_suppose 33 rfl) rfl ?_
  refine xJ.getfield (o_VectorSolverModel_suppose 34 rfl) f_VectorSolverModel_126 rfl rfl ?_
  refine xJ.if_le (tgt := 68) (o_VectorSolverModel_suppose 35 rfl) (by decide) (fun z => ?_) (fun z => ?_)
  · replace h := h.1 z
    refine xJ.aload_n (o_VectorSolverModel_suppose 38 rfl) rfl ?_
    refine xJ.aload_n (o_VectorSolverModel_suppose 39 rfl) rfl ?_
    refine xJ.callV (Y' := Y_VectorSolverModel_pay) (o_VectorSolverModel_suppose 40 rfl) m_VectorSolverModel_413 y_VectorSolverModel_pay im_VectorSolverModel_pay se_VectorSolverModel_pay rfl rfl (s_VectorSolverModel_pay h) rfl rfl (Nat.le_of_ble_eq_true rfl) (fun _ hx => by cases hx) (fun v u q => ?_) (fun n u q => q)
    obtain ⟨r, rfl, h⟩ := xqi_get q
    refine xJ.if_eq (tgt := 80) (o_VectorSolverModel_suppose 41 rfl) (by decide) (fun z => ?_) (fun z => ?_)
    · replace h := h.1 z
      refine xJ.iconst (v := 2) (o_VectorSolverModel_suppose 44 rfl) (by decide) ?_
      exact xJ.lvs (by exact ⟨rfl, rfl, trivial⟩) (sw_VectorSolverModel_suppose_81 h)
    · replace h := h.2 z
      refine xJ.iconst (v := 0) (o_VectorSolverModel_suppose 42 rfl) (by decide) ?_
      refine xJ.goto (tgt := 81) (o_VectorSolverModel_suppose 43 rfl) (by decide) ?_
      exact xJ.lvs (by exact ⟨rfl, rfl, trivial⟩) (sw_VectorSolverModel_suppose_81 h)
  · replace h := h.2 z
    refine xJ.iconst (v := 0) (o_VectorSolverModel_suppose 36 rfl) (by decide) ?_
    exact xJ.zreturn (o_VectorSolverModel_suppose 37 rfl) rfl (Or.inl rfl) h
set_option maxRecDepth 20000 in
theorem sw_VectorSolverModel_suppose_45 {γ : xG1} {d b0 : Nat} {Q : xO → xS → Prop} {a1 : Int32} {t0 : Int32} {σ : xS} (h : w_VectorSolverModel_suppose_45 Q a1 t0 σ) : xJ (SHP, γ) Y_VectorSolverModel_suppose (d + 8) b0 45 [(0, .ref 50), (1, .int a1)] [.int t0] σ Q := by
  refine xJ.istore_n (o_VectorSolverModel_suppose 25 rfl) (by decide) ?_
  refine xJ.aload_n (o_VectorSolverModel_suppose 26 rfl) rfl ?_
  refine xJ.iload_n (o_VectorSolverModel_suppose 27 rfl) rfl ?_
  refine xJ.if_ne (tgt := 55) (o_VectorSolverModel_suppose 28 rfl) (by decide) (fun z => ?_) (fun z => ?_)
  · replace h := h.1 z
    refine xJ.iconst (v := 0) (o_VectorSolverModel_suppose 31 rfl) (by decide) ?_
    exact xJ.lvs (by exact ⟨rfl, rfl, trivial⟩) (sw_VectorSolverModel_suppose_56 h)
  · replace h := h.2 z
    refine xJ.iconst (v := 1) (o_VectorSolverModel_suppose 29 rfl) (by decide) ?_
    refine xJ.goto (tgt := 56) (o_VectorSolverModel_suppose 30 rfl) (by decide) ?_
    exact xJ.lvs (by exact ⟨rfl, rfl, trivial⟩) (sw_VectorSolverModel_suppose_56 h)
set_option maxRecDepth 20000 in
theorem sw_VectorSolverModel_suppose_44 {γ : xG1} {d b0 : Nat} {Q : xO → xS → Prop} {a1 : Int32} {σ : xS} (h : w_VectorSolverModel_suppose_44 Q a1 σ) : xJ (SHP, γ) Y_VectorSolverModel_suppose (d + 8) b0 44 [(0, .ref 50), (1, .int a1)] [] σ Q := by
  refine xJ.iconst (v := 0) (o_VectorSolverModel_suppose 24 rfl) (by decide) ?_
  exact xJ.lvs (by exact ⟨rfl, rfl, trivial⟩) (sw_VectorSolverModel_suppose_45 h)
set_option maxRecDepth 20000 in
theorem s_VectorSolverModel_suppose {γ : xG1} {d : Nat} {Q : xO → xS → Prop} {σ : xS} {a1 : Int32} (h : wp_VectorSolverModel_suppose Q σ a1) : xM (SHP, γ) Y_VectorSolverModel_suppose (d + 8) [.ref 50, .int a1] σ Q := by
  refine xM.of (by decide) (Nat.le_of_ble_eq_true rfl) ?_
  refine xJ.iload_n (o_VectorSolverModel_suppose 0 rfl) rfl ?_
  refine xJ.if_lt (tgt := 44) (o_VectorSolverModel_suppose 1 rfl) (by decide) (fun z => ?_) (fun z => ?_)
  · replace h := h.1 z
    exact xJ.lvs (by exact ⟨rfl, rfl, trivial⟩) (sw_VectorSolverModel_suppose_44 h)
  · replace h := h.2 z
    refine xJ.iload_n (o_VectorSolverModel_suppose 2 rfl) rfl ?_
    refine xJ.aload_n (o_VectorSolverModel_suppose 3 rfl) rfl ?_
    refine xJ.getfield (o_VectorSolverModel_suppose 4 rfl) f_VectorSolverModel_183 rfl rfl ?_
    refine xJ.icmp_ge (tgt := 44) (o_VectorSolverModel_suppose 5 rfl) (by decide) (fun z => ?_) (fun z => ?_)
    · replace h := h.1 z
      exact xJ.lvs (by exact ⟨rfl, rfl, trivial⟩) (sw_VectorSolverModel_suppose_44 h)
    · replace h := h.2 z
      refine xJ.aload_n (o_VectorSolverModel_suppose 6 rfl) rfl ?_
      refine xJ.getfield (o_VectorSolverModel_suppose 7 rfl) f_VectorSolverModel_41 rfl rfl ?_
      refine xJ.aload_n (o_VectorSolverModel_suppose 8 rfl) rfl ?_
      refine xJ.getfield (o_VectorSolverModel_suppose 9 rfl) f_VectorSolverModel_73 rfl rfl ?_
      refine xJ.iload_n (o_VectorSolverModel_suppose 10 rfl) rfl ?_
      refine xJ.iaload (o_VectorSolverModel_suppose 11 rfl) rfl h.1 ?_
      replace h := h.2
      refine xJ.iaload (o_VectorSolverModel_suppose 12 rfl) rfl h.1 ?_
      replace h := h.2
      refine xJ.if_ne (tgt := 44) (o_VectorSolverModel_suppose 13 rfl) (by decide) (fun z => ?_) (fun z => ?_)
      · replace h := h.1 z
        exact xJ.lvs (by exact ⟨rfl, rfl, trivial⟩) (sw_VectorSolverModel_suppose_44 h)
      · replace h := h.2 z
        refine xJ.aload_n (o_VectorSolverModel_suppose 14 rfl) rfl ?_
        refine xJ.getfield (o_VectorSolverModel_suppose 15 rfl) f_VectorSolverModel_44 rfl rfl ?_
        refine xJ.aload_n (o_VectorSolverModel_suppose 16 rfl) rfl ?_
        refine xJ.getfield (o_VectorSolverModel_suppose 17 rfl) f_VectorSolverModel_73 rfl rfl ?_
        refine xJ.iload_n (o_VectorSolverModel_suppose 18 rfl) rfl ?_
        refine xJ.iaload (o_VectorSolverModel_suppose 19 rfl) rfl h.1 ?_
        replace h := h.2
        refine xJ.iaload (o_VectorSolverModel_suppose 20 rfl) rfl h.1 ?_
        replace h := h.2
        refine xJ.if_ne (tgt := 44) (o_VectorSolverModel_suppose 21 rfl) (by decide) (fun z => ?_) (fun z => ?_)
        · replace h := h.1 z
          exact xJ.lvs (by exact ⟨rfl, rfl, trivial⟩) (sw_VectorSolverModel_suppose_44 h)
        · replace h := h.2 z
          refine xJ.iconst (v := 1) (o_VectorSolverModel_suppose 22 rfl) (by decide) ?_
          refine xJ.goto (tgt := 45) (o_VectorSolverModel_suppose 23 rfl) (by decide) ?_
          exact xJ.lvs (by exact ⟨rfl, rfl, trivial⟩) (sw_VectorSolverModel_suppose_45 h)
def w_VectorSolverModel_value_148 (Q : xO → xS → Prop) (a1 : Int32) (a2 : Int32) (a4 : Int32) (t0 : Int32) (σ : xS) : Prop :=
  (∀ x2 : Int32, x2 = (a4 + (t0 * (a2 + 1))) → ((x2 ≤ (xi σ 50 52) → (vp_in a1 2000 ∧ (vp_in (xi σ 80 a1.toNatClampNeg) 2000 ∧ wp_VectorSolverModel_mask (xql (fun r4 u3 => Q (.inl (some (.long ((jlshr (xl σ 50 51) ((xi σ 50 52) - x2)) &&& r4)))) u3) (fun n u => Q (.inr n) u)) σ (xi σ 58 (xi σ 80 a1.toNatClampNeg).toNatClampNeg)))) ∧ (¬ x2 ≤ (xi σ 50 52) → Q (.inl (some (.long 0))) σ)))
def w_VectorSolverModel_value_75 (Q : xO → xS → Prop) : Nat → Int32 → Int32 → Int32 → Int32 → xS → Prop
  | 0 => fun _ _ _ _ _ => False
  | n + 1 => fun a1 a2 a4 a5 σ =>
    ((a1 ≤ a5 → (vp_in a1 2000 ∧ (vp_in (xi σ 80 a1.toNatClampNeg) 2000 ∧ ((¬ (xi σ 58 (xi σ 80 a1.toNatClampNeg).toNatClampNeg) = 0 → (vp_in a1 2000 ∧ (vp_in (xi σ 80 a1.toNatClampNeg) 2000 ∧ w_VectorSolverModel_value_148 Q a1 a2 a4 (xi σ 58 (xi σ 80 a1.toNatClampNeg).toNatClampNeg) σ))) ∧ ((xi σ 58 (xi σ 80 a1.toNatClampNeg).toNatClampNeg) = 0 → w_VectorSolverModel_value_148 Q a1 a2 a4 1 σ))))) ∧ (¬ a1 ≤ a5 → (vp_in a5 2000 ∧ (vp_in (xi σ 80 a5.toNatClampNeg) 2000 ∧ (vp_in a5 2000 ∧ (vp_in (xi σ 80 a5.toNatClampNeg) 2000 ∧ wp_VectorSolverModel_bitsOf (xqi (fun r6 u5 => (∀ x7 : Int32, x7 = (a4 + r6) → (∀ x8 : Int32, x8 = a5 + 1 → w_VectorSolverModel_value_75 Q n a1 a2 x7 x8 u5))) (fun n u => Q (.inr n) u)) σ (xi σ 57 (xi σ 80 a5.toNatClampNeg).toNatClampNeg) (xi σ 58 (xi σ 80 a5.toNatClampNeg).toNatClampNeg)))))))
def w_VectorSolverModel_value_57 (Q : xO → xS → Prop) (a1 : Int32) (a2 : Int32) (t1 : Int32) (σ : xS) : Prop :=
  (∀ s1 : xS, s1 = xpi σ 50 1 t1 → (((xi s1 50 1) ≤ 0 → ∃ m, w_VectorSolverModel_value_75 Q m a1 a2 0 0 s1) ∧ (¬ (xi s1 50 1) ≤ 0 → Q (.inl (some (.long 0))) s1)))
def w_VectorSolverModel_value_35 (Q : xO → xS → Prop) (a1 : Int32) (a2 : Int32) (t0 : Int32) (σ : xS) : Prop :=
  ((¬ t0 = 0 → ((¬ (xi σ 50 50) = 0 → w_VectorSolverModel_value_57 Q a1 a2 0 σ) ∧ ((xi σ 50 50) = 0 → w_VectorSolverModel_value_57 Q a1 a2 2 σ))) ∧ (t0 = 0 → w_VectorSolverModel_value_57 Q a1 a2 1 σ))
def w_VectorSolverModel_value_34 (Q : xO → xS → Prop) (a1 : Int32) (a2 : Int32) (σ : xS) : Prop :=
  w_VectorSolverModel_value_35 Q a1 a2 0 σ
def wp_VectorSolverModel_value (Q : xO → xS → Prop) (σ : xS) (a1 : Int32) (a2 : Int32) : Prop :=
  ((a1 < 0 → w_VectorSolverModel_value_34 Q a1 a2 σ) ∧ (¬ a1 < 0 → (((xi σ 50 42) ≤ a1 → w_VectorSolverModel_value_34 Q a1 a2 σ) ∧ (¬ (xi σ 50 42) ≤ a1 → ((a2 < 0 → w_VectorSolverModel_value_34 Q a1 a2 σ) ∧ (¬ a2 < 0 → (vp_in a1 2000 ∧ wp_VectorSolverModel_cells (xqi (fun r10 u9 => ((r10 ≤ a2 → w_VectorSolverModel_value_34 Q a1 a2 u9) ∧ (¬ r10 ≤ a2 → w_VectorSolverModel_value_35 Q a1 a2 1 u9))) (fun n u => Q (.inr n) u)) σ (xi σ 80 a1.toNatClampNeg))))))))
set_option maxRecDepth 20000 in
theorem sw_VectorSolverModel_value_148 {γ : xG1} {d b0 : Nat} {Q : xO → xS → Prop} {a1 : Int32} {a2 : Int32} {a4 : Int32} {t0 : Int32} {σ : xS} (h : w_VectorSolverModel_value_148 Q a1 a2 a4 t0 σ) : xJ (SHP, γ) Y_VectorSolverModel_value (d + 1) b0 148 [(0, .ref 50), (1, .int a1), (2, .int a2), (4, .int a4)] [.int t0] σ Q := by
  refine xJ.istore (o_VectorSolverModel_value 81 rfl) (by decide) ?_
  refine xJ.iload (o_VectorSolverModel_value 82 rfl) rfl ?_
  refine xJ.iload (o_VectorSolverModel_value 83 rfl) rfl ?_
  refine xJ.iload_n (o_VectorSolverModel_value 84 rfl) rfl ?_
  refine xJ.iconst (v := 1) (o_VectorSolverModel_value 85 rfl) (by decide) ?_
  refine xJ.iadd (o_VectorSolverModel_value 86 rfl) ?_
  refine xJ.imul (o_VectorSolverModel_value 87 rfl) ?_
  refine xJ.iadd (o_VectorSolverModel_value 88 rfl) ?_
  refine xJ.istore (o_VectorSolverModel_value 89 rfl) (by decide) ?_
  replace h := h _ rfl
  refine xJ.iload (o_VectorSolverModel_value 90 rfl) rfl ?_
  refine xJ.aload_n (o_VectorSolverModel_value 91 rfl) rfl ?_
  refine xJ.getfield (o_VectorSolverModel_value 92 rfl) f_VectorSolverModel_410 rfl rfl ?_
  refine xJ.icmp_le (tgt := 174) (o_VectorSolverModel_value 93 rfl) (by decide) (fun z => ?_) (fun z => ?_)
  · replace h := h.1 z
    refine xJ.aload_n (o_VectorSolverModel_value 96 rfl) rfl ?_
    refine xJ.getfield (o_VectorSolverModel_value 97 rfl) f_VectorSolverModel_407 rfl rfl ?_
    refine xJ.aload_n (o_VectorSolverModel_value 98 rfl) rfl ?_
    refine xJ.getfield (o_VectorSolverModel_value 99 rfl) f_VectorSolverModel_410 rfl rfl ?_
    refine xJ.iload (o_VectorSolverModel_value 100 rfl) rfl ?_
    refine xJ.isub (o_VectorSolverModel_value 101 rfl) ?_
    refine xJ.lshr (o_VectorSolverModel_value 102 rfl) rfl ?_
    refine xJ.aload_n (o_VectorSolverModel_value 103 rfl) rfl ?_
    refine xJ.getfield (o_VectorSolverModel_value 104 rfl) f_VectorSolverModel_44 rfl rfl ?_
    refine xJ.aload_n (o_VectorSolverModel_value 105 rfl) rfl ?_
    refine xJ.getfield (o_VectorSolverModel_value 106 rfl) f_VectorSolverModel_112 rfl rfl ?_
    refine xJ.iload_n (o_VectorSolverModel_value 107 rfl) rfl ?_
    refine xJ.iaload (o_VectorSolverModel_value 108 rfl) rfl h.1 ?_
    replace h := h.2
    refine xJ.iaload (o_VectorSolverModel_value 109 rfl) rfl h.1 ?_
    replace h := h.2
    refine xJ.callS (Y' := Y_VectorSolverModel_mask) (o_VectorSolverModel_value 110 rfl) m_VectorSolverModel_375 y_VectorSolverModel_mask st_VectorSolverModel_mask (s_VectorSolverModel_mask h) rfl rfl (Nat.le_of_ble_eq_true rfl) (fun _ hx => by cases hx) (fun v u q => ?_) (fun n u q => q)
    obtain ⟨r, rfl, h⟩ := xql_get q
    refine xJ.land (o_VectorSolverModel_value 111 rfl) ?_
    exact xJ.lreturn (o_VectorSolverModel_value 112 rfl) rfl h
  · replace h := h.2 z
    refine xJ.lconst (v := 0) (o_VectorSolverModel_value 94 rfl) (by decide) ?_
    refine xJ.goto (tgt := 201) (o_VectorSolverModel_value 95 rfl) (by decide) ?_
    exact xJ.lreturn (o_VectorSolverModel_value 112 rfl) rfl h
set_option maxRecDepth 20000 in
theorem sw_VectorSolverModel_value_75 {γ : xG1} {d b0 : Nat} {Q : xO → xS → Prop} : ∀ (n : Nat) (a1 : Int32) (a2 : Int32) (a4 : Int32) (a5 : Int32) (σ : xS), w_VectorSolverModel_value_75 Q n a1 a2 a4 a5 σ → xJ (SHP, γ) Y_VectorSolverModel_value (d + 1) b0 75 [(0, .ref 50), (1, .int a1), (2, .int a2), (4, .int a4), (5, .int a5)] [] σ Q := by
  intro n
  induction n with
  | zero => intro a1 a2 a4 a5 σ h; exact h.elim
  | succ n ih =>
    intro a1 a2 a4 a5 σ h
    refine xJ.iload (o_VectorSolverModel_value 41 rfl) rfl ?_
    refine xJ.iload_n (o_VectorSolverModel_value 42 rfl) rfl ?_
    refine xJ.icmp_ge (tgt := 119) (o_VectorSolverModel_value 43 rfl) (by decide) (fun z => ?_) (fun z => ?_)
    · replace h := h.1 z
      refine xJ.aload_n (o_VectorSolverModel_value 64 rfl) rfl ?_
      refine xJ.getfield (o_VectorSolverModel_value 65 rfl) f_VectorSolverModel_44 rfl rfl ?_
      refine xJ.aload_n (o_VectorSolverModel_value 66 rfl) rfl ?_
      refine xJ.getfield (o_VectorSolverModel_value 67 rfl) f_VectorSolverModel_112 rfl rfl ?_
      refine xJ.iload_n (o_VectorSolverModel_value 68 rfl) rfl ?_
      refine xJ.iaload (o_VectorSolverModel_value 69 rfl) rfl h.1 ?_
      replace h := h.2
      refine xJ.iaload (o_VectorSolverModel_value 70 rfl) rfl h.1 ?_
      replace h := h.2
      refine xJ.if_ne (tgt := 137) (o_VectorSolverModel_value 71 rfl) (by decide) (fun z => ?_) (fun z => ?_)
      · replace h := h.1 z
        refine xJ.aload_n (o_VectorSolverModel_value 74 rfl) rfl ?_
        refine xJ.getfield (o_VectorSolverModel_value 75 rfl) f_VectorSolverModel_44 rfl rfl ?_
        refine xJ.aload_n (o_VectorSolverModel_value 76 rfl) rfl ?_
        refine xJ.getfield (o_VectorSolverModel_value 77 rfl) f_VectorSolverModel_112 rfl rfl ?_
        refine xJ.iload_n (o_VectorSolverModel_value 78 rfl) rfl ?_
        refine xJ.iaload (o_VectorSolverModel_value 79 rfl) rfl h.1 ?_
        replace h := h.2
        refine xJ.iaload (o_VectorSolverModel_value 80 rfl) rfl h.1 ?_
        replace h := h.2
        exact xJ.lvs (by exact ⟨rfl, rfl, rfl, rfl, trivial⟩) (sw_VectorSolverModel_value_148 h)
      · replace h := h.2 z
        refine xJ.iconst (v := 1) (o_VectorSolverModel_value 72 rfl) (by decide) ?_
        refine xJ.goto (tgt := 148) (o_VectorSolverModel_value 73 rfl) (by decide) ?_
        exact xJ.lvs (by exact ⟨rfl, rfl, rfl, rfl, trivial⟩) (sw_VectorSolverModel_value_148 h)
    · replace h := h.2 z
      refine xJ.iload (o_VectorSolverModel_value 44 rfl) rfl ?_
      refine xJ.aload_n (o_VectorSolverModel_value 45 rfl) rfl ?_
      refine xJ.getfield (o_VectorSolverModel_value 46 rfl) f_VectorSolverModel_41 rfl rfl ?_
      refine xJ.aload_n (o_VectorSolverModel_value 47 rfl) rfl ?_
      refine xJ.getfield (o_VectorSolverModel_value 48 rfl) f_VectorSolverModel_112 rfl rfl ?_
      refine xJ.iload (o_VectorSolverModel_value 49 rfl) rfl ?_
      refine xJ.iaload (o_VectorSolverModel_value 50 rfl) rfl h.1 ?_
      replace h := h.2
      refine xJ.iaload (o_VectorSolverModel_value 51 rfl) rfl h.1 ?_
      replace h := h.2
      refine xJ.aload_n (o_VectorSolverModel_value 52 rfl) rfl ?_
      refine xJ.getfield (o_VectorSolverModel_value 53 rfl) f_VectorSolverModel_44 rfl rfl ?_
      refine xJ.aload_n (o_VectorSolverModel_value 54 rfl) rfl ?_
      refine xJ.getfield (o_VectorSolverModel_value 55 rfl) f_VectorSolverModel_112 rfl rfl ?_
      refine xJ.iload (o_VectorSolverModel_value 56 rfl) rfl ?_
      refine xJ.iaload (o_VectorSolverModel_value 57 rfl) rfl h.1 ?_
      replace h := h.2
      refine xJ.iaload (o_VectorSolverModel_value 58 rfl) rfl h.1 ?_
      replace h := h.2
      refine xJ.callS (Y' := Y_VectorSolverModel_bitsOf) (o_VectorSolverModel_value 59 rfl) m_VectorSolverModel_236 y_VectorSolverModel_bitsOf st_VectorSolverModel_bitsOf (s_VectorSolverModel_bitsOf h) rfl rfl (Nat.le_of_ble_eq_true rfl) (fun _ hx => by cases hx) (fun v u q => ?_) (fun n u q => q)
      obtain ⟨r, rfl, h⟩ := xqi_get q
      refine xJ.iadd (o_VectorSolverModel_value 60 rfl) ?_
      refine xJ.istore (o_VectorSolverModel_value 61 rfl) (by decide) ?_
      replace h := h _ rfl
      refine xJ.iincC (w := 1) (o_VectorSolverModel_value 62 rfl) rfl (by decide) (by decide) ?_
      replace h := h _ rfl
      refine xJ.goto (tgt := 75) (o_VectorSolverModel_value 63 rfl) (by decide) ?_
      exact xJ.lvs (by exact ⟨rfl, rfl, rfl, rfl, rfl, trivial⟩) (ih _ _ _ _ _ h)
set_option maxRecDepth 20000 in
theorem sw_VectorSolverModel_value_57 {γ : xG1} {d b0 : Nat} {Q : xO → xS → Prop} {a1 : Int32} {a2 : Int32} {t1 : Int32} {σ : xS} (h : w_VectorSolverModel_value_57 Q a1 a2 t1 σ) : xJ (SHP, γ) Y_VectorSolverModel_value (d + 1) b0 57 [(0, .ref 50), (1, .int a1), (2, .int a2)] [.int t1, .ref 50] σ Q := by
  refine xJ.putI (o_VectorSolverModel_value 31 rfl) f_VectorSolverModel_126 rfl rfl rfl ?_
  replace h := h _ rfl
  refine xJ.aload_n (o_VectorSolverModel_value 32 rfl) rfl ?_
  refine xJ.getfield (o_VectorSolverModel_value 33 rfl) f_VectorSolverModel_126 rfl rfl ?_
  refine xJ.if_le (tgt := 69) (o_VectorSolverModel_value 34 rfl) (by decide) (fun z => ?_) (fun z => ?_)
  · replace h := h.1 z
    refine xJ.iconst (v := 0) (o_VectorSolverModel_value 37 rfl) (by decide) ?_
    refine xJ.istore (o_VectorSolverModel_value 38 rfl) (by decide) ?_
    refine xJ.iconst (v := 0) (o_VectorSolverModel_value 39 rfl) (by decide) ?_
    refine xJ.istore (o_VectorSolverModel_value 40 rfl) (by decide) ?_
    obtain ⟨m, h⟩ := h
    exact xJ.lvs (by exact ⟨rfl, rfl, rfl, rfl, rfl, trivial⟩) (sw_VectorSolverModel_value_75 m _ _ _ _ _ h)
  · replace h := h.2 z
    refine xJ.lconst (v := 0) (o_VectorSolverModel_value 35 rfl) (by decide) ?_
    exact xJ.lreturn (o_VectorSolverModel_value 36 rfl) rfl h
set_option maxRecDepth 20000 in
theorem sw_VectorSolverModel_value_35 {γ : xG1} {d b0 : Nat} {Q : xO → xS → Prop} {a1 : Int32} {a2 : Int32} {t0 : Int32} {σ : xS} (h : w_VectorSolverModel_value_35 Q a1 a2 t0 σ) : xJ (SHP, γ) Y_VectorSolverModel_value (d + 1) b0 35 [(0, .ref 50), (1, .int a1), (2, .int a2)] [.int t0] σ Q := by
  refine xJ.istore_n (o_VectorSolverModel_value 19 rfl) (by decide) ?_
  refine xJ.aload_n (o_VectorSolverModel_value 20 rfl) rfl ?_
  refine xJ.iload_n (o_VectorSolverModel_value 21 rfl) rfl ?_
  refine xJ.if_ne (tgt := 45) (o_VectorSolverModel_value 22 rfl) (by decide) (fun z => ?_) (fun z => ?_)
  · replace h := h.1 z
    refine xJ.aload_n (o_VectorSolverModel_value 25 rfl) rfl ?_
    refine xJ.getfield (o_VectorSolverModel_value 26 rfl) f_VectorSolverModel_420 rfl rfl ?_
    refine xJ.if_ne (tgt := 56) (o_VectorSolverModel_value 27 rfl) (by decide) (fun z => ?_) (fun z => ?_)
    · replace h := h.1 z
      refine xJ.iconst (v := 0) (o_VectorSolverModel_value 30 rfl) (by decide) ?_
      exact xJ.lvs (by exact ⟨rfl, rfl, rfl, trivial⟩) (sw_VectorSolverModel_value_57 h)
    · replace h := h.2 z
      refine xJ.iconst (v := 2) (o_VectorSolverModel_value 28 rfl) (by decide) ?_
      refine xJ.goto (tgt := 57) (o_VectorSolverModel_value 29 rfl) (by decide) ?_
      exact xJ.lvs (by exact ⟨rfl, rfl, rfl, trivial⟩) (sw_VectorSolverModel_value_57 h)
  · replace h := h.2 z
    refine xJ.iconst (v := 1) (o_VectorSolverModel_value 23 rfl) (by decide) ?_
    refine xJ.goto (tgt := 57) (o_VectorSolverModel_value 24 rfl) (by decide) ?_
    exact xJ.lvs (by exact ⟨rfl, rfl, rfl, trivial⟩) (sw_VectorSolverModel_value_57 h)
set_option maxRecDepth 20000 in
theorem sw_VectorSolverModel_value_34 {γ : xG1} {d b0 : Nat} {Q : xO → xS → Prop} {a1 : Int32} {a2 : Int32} {σ : xS} (h : w_VectorSolverModel_value_34 Q a1 a2 σ) : xJ (SHP, γ) Y_VectorSolverModel_value (d + 1) b0 34 [(0, .ref 50), (1, .int a1), (2, .int a2)] [] σ Q := by
  refine xJ.iconst (v := 0) (o_VectorSolverModel_value 18 rfl) (by decide) ?_
  exact xJ.lvs (by exact ⟨rfl, rfl, rfl, trivial⟩) (sw_VectorSolverModel_value_35 h)
set_option maxRecDepth 20000 in
theorem s_VectorSolverModel_value {γ : xG1} {d : Nat} {Q : xO → xS → Prop} {σ : xS} {a1 : Int32} {a2 : Int32} (h : wp_VectorSolverModel_value Q σ a1 a2) : xM (SHP, γ) Y_VectorSolverModel_value (d + 1) [.ref 50, .int a1, .int a2] σ Q := by
  refine xM.of (by decide) (Nat.le_of_ble_eq_true rfl) ?_
  refine xJ.iload_n (o_VectorSolverModel_value 0 rfl) rfl ?_
  refine xJ.if_lt (tgt := 34) (o_VectorSolverModel_value 1 rfl) (by decide) (fun z => ?_) (fun z => ?_)
  · replace h := h.1 z
    exact xJ.lvs (by exact ⟨rfl, rfl, rfl, trivial⟩) (sw_VectorSolverModel_value_34 h)
  · replace h := h.2 z
    refine xJ.iload_n (o_VectorSolverModel_value 2 rfl) rfl ?_
    refine xJ.aload_n (o_VectorSolverModel_value 3 rfl) rfl ?_
    refine xJ.getfield (o_VectorSolverModel_value 4 rfl) f_VectorSolverModel_246 rfl rfl ?_
    refine xJ.icmp_ge (tgt := 34) (o_VectorSolverModel_value 5 rfl) (by decide) (fun z => ?_) (fun z => ?_)
    · replace h := h.1 z
      exact xJ.lvs (by exact ⟨rfl, rfl, rfl, trivial⟩) (sw_VectorSolverModel_value_34 h)
    · replace h := h.2 z
      refine xJ.iload_n (o_VectorSolverModel_value 6 rfl) rfl ?_
      refine xJ.if_lt (tgt := 34) (o_VectorSolverModel_value 7 rfl) (by decide) (fun z => ?_) (fun z => ?_)
      · replace h := h.1 z
        exact xJ.lvs (by exact ⟨rfl, rfl, rfl, trivial⟩) (sw_VectorSolverModel_value_34 h)
      · replace h := h.2 z
        refine xJ.iload_n (o_VectorSolverModel_value 8 rfl) rfl ?_
        refine xJ.aload_n (o_VectorSolverModel_value 9 rfl) rfl ?_
        refine xJ.aload_n (o_VectorSolverModel_value 10 rfl) rfl ?_
        refine xJ.getfield (o_VectorSolverModel_value 11 rfl) f_VectorSolverModel_112 rfl rfl ?_
        refine xJ.iload_n (o_VectorSolverModel_value 12 rfl) rfl ?_
        refine xJ.iaload (o_VectorSolverModel_value 13 rfl) rfl h.1 ?_
        replace h := h.2
        refine xJ.callV (Y' := Y_VectorSolverModel_cells) (o_VectorSolverModel_value 14 rfl) m_VectorSolverModel_361 y_VectorSolverModel_cells im_VectorSolverModel_cells se_VectorSolverModel_cells rfl rfl (s_VectorSolverModel_cells h) rfl rfl (Nat.le_of_ble_eq_true rfl) (fun _ hx => by cases hx) (fun v u q => ?_) (fun n u q => q)
        obtain ⟨r, rfl, h⟩ := xqi_get q
        refine xJ.icmp_ge (tgt := 34) (o_VectorSolverModel_value 15 rfl) (by decide) (fun z => ?_) (fun z => ?_)
        · replace h := h.1 z
          exact xJ.lvs (by exact ⟨rfl, rfl, rfl, trivial⟩) (sw_VectorSolverModel_value_34 h)
        · replace h := h.2 z
          refine xJ.iconst (v := 1) (o_VectorSolverModel_value 16 rfl) (by decide) ?_
          refine xJ.goto (tgt := 35) (o_VectorSolverModel_value 17 rfl) (by decide) ?_
          exact xJ.lvs (by exact ⟨rfl, rfl, rfl, trivial⟩) (sw_VectorSolverModel_value_35 h)
def w_VectorSolverModel_named_104 (Q : xO → xS → Prop) (K76 : Int32 → Int32 → xS → Prop) (a1 : Int32) (a3 : Int32) (t1 : Int32) (t2 : Int32) (σ : xS) : Prop :=
  (vp_in t1 2000 ∧ (∀ s6 : xS, s6 = xpi σ 82 t1.toNatClampNeg (vp_nar .boolean t2) → (vp_in a3 2000 ∧ (∀ s7 : xS, s7 = xpi s6 83 a3.toNatClampNeg (vp_nar .boolean 0) → (∀ x8 : Int32, x8 = a3 + 1 → K76 a1 x8 s7)))))
def w_VectorSolverModel_named_76 (Q : xO → xS → Prop) : Nat → Int32 → Int32 → xS → Prop
  | 0 => fun _ _ _ => False
  | n + 1 => fun a1 a3 σ =>
    (((xi σ 50 11) ≤ a3 → wp_VectorSolverModel_lay1 (xqv (fun u2 => wp_VectorSolverModel_workOut (xqi (fun r5 u4 => (vp_in a1 500 ∧ (vp_in (64 * (xi u4 67 a1.toNatClampNeg)) 128000 ∧ Q (.inl (some (.long (xl u4 81 (64 * (xi u4 67 a1.toNatClampNeg)).toNatClampNeg)))) u4))) (fun n u => Q (.inr n) u)) u2 ) (fun n u => Q (.inr n) u)) σ (jlshl (xl σ 50 51) ((xi σ 50 45) - (xi σ 50 52)))) ∧ (¬ (xi σ 50 11) ≤ a3 → (vp_in a1 500 ∧ (((xi σ 67 a1.toNatClampNeg) < a3 → w_VectorSolverModel_named_104 Q (w_VectorSolverModel_named_76 Q n) a1 a3 a3 0 σ) ∧ (¬ (xi σ 67 a1.toNatClampNeg) < a3 → w_VectorSolverModel_named_104 Q (w_VectorSolverModel_named_76 Q n) a1 a3 a3 1 σ)))))
def w_VectorSolverModel_named_62 (Q : xO → xS → Prop) (a1 : Int32) (t1 : Int32) (σ : xS) : Prop :=
  (∀ s1 : xS, s1 = xpi σ 50 1 t1 → (((xi s1 50 1) ≤ 0 → ∃ m, w_VectorSolverModel_named_76 Q m a1 0 s1) ∧ (¬ (xi s1 50 1) ≤ 0 → Q (.inl (some (.long 0))) s1)))
def w_VectorSolverModel_named_57 (Q : xO → xS → Prop) (a1 : Int32) (σ : xS) : Prop :=
  w_VectorSolverModel_named_62 Q a1 2 σ
def w_VectorSolverModel_named_31 (Q : xO → xS → Prop) (a1 : Int32) (t0 : Int32) (σ : xS) : Prop :=
  ((¬ t0 = 0 → (((xi σ 50 50) = 0 → w_VectorSolverModel_named_57 Q a1 σ) ∧ (¬ (xi σ 50 50) = 0 → (((xi σ 50 45) ≤ 16 → w_VectorSolverModel_named_62 Q a1 0 σ) ∧ (¬ (xi σ 50 45) ≤ 16 → w_VectorSolverModel_named_57 Q a1 σ))))) ∧ (t0 = 0 → w_VectorSolverModel_named_62 Q a1 1 σ))
def w_VectorSolverModel_named_30 (Q : xO → xS → Prop) (a1 : Int32) (σ : xS) : Prop :=
  w_VectorSolverModel_named_31 Q a1 0 σ
def wp_VectorSolverModel_named (Q : xO → xS → Prop) (σ : xS) (a1 : Int32) : Prop :=
  ((a1 < 0 → w_VectorSolverModel_named_30 Q a1 σ) ∧ (¬ a1 < 0 → (((xi σ 50 23) ≤ a1 → w_VectorSolverModel_named_30 Q a1 σ) ∧ (¬ (xi σ 50 23) ≤ a1 → (vp_in a1 500 ∧ (vp_in (xi σ 67 a1.toNatClampNeg) 2000 ∧ ((¬ (xi σ 57 (xi σ 67 a1.toNatClampNeg).toNatClampNeg) = 0 → w_VectorSolverModel_named_30 Q a1 σ) ∧ ((xi σ 57 (xi σ 67 a1.toNatClampNeg).toNatClampNeg) = 0 → w_VectorSolverModel_named_31 Q a1 1 σ))))))))
set_option maxRecDepth 20000 in
theorem sw_VectorSolverModel_named_104 {γ : xG1} {d b0 : Nat} {Q : xO → xS → Prop} {K76 : Int32 → Int32 → xS → Prop} (hK76 : ∀ a1 a3 σ, K76 a1 a3 σ → xJ (SHP, γ) Y_VectorSolverModel_named (d + 7) b0 76 [(0, .ref 50), (1, .int a1), (3, .int a3)] [] σ Q) {a1 : Int32} {a3 : Int32} {t1 : Int32} {t2 : Int32} {σ : xS} (h : w_VectorSolverModel_named_104 Q K76 a1 a3 t1 t2 σ) : xJ (SHP, γ) Y_VectorSolverModel_named (d + 7) b0 104 [(0, .ref 50), (1, .int a1), (3, .int a3)] [.int t2, .int t1, .ref 82] σ Q := by
  refine xJ.zastore (o_VectorSolverModel_named 57 rfl) rfl h.1 ?_
  replace h := h.2
  replace h := h _ rfl
  refine xJ.aload_n (o_VectorSolverModel_named 58 rfl) rfl ?_
  refine xJ.getfield (o_VectorSolverModel_named 59 rfl) f_VectorSolverModel_123 rfl rfl ?_
  refine xJ.iload_n (o_VectorSolverModel_named 60 rfl) rfl ?_
  refine xJ.iconst (v := 0) (o_VectorSolverModel_named 61 rfl) (by decide) ?_
  refine xJ.zastore (o_VectorSolverModel_named 62 rfl) rfl h.1 ?_
  replace h := h.2
  replace h := h _ rfl
  refine xJ.iincC (w := 1) (o_VectorSolverModel_named 63 rfl) rfl (by decide) (by decide) ?_
  replace h := h _ rfl
  refine xJ.goto (tgt := 76) (o_VectorSolverModel_named 64 rfl) (by decide) ?_
  exact xJ.lvs (by exact ⟨rfl, rfl, rfl, trivial⟩) (hK76 _ _ _ h)
set_option maxRecDepth 20000 in
theorem sw_VectorSolverModel_named_76 {γ : xG1} {d b0 : Nat} {Q : xO → xS → Prop} : ∀ (n : Nat) (a1 : Int32) (a3 : Int32) (σ : xS), w_VectorSolverModel_named_76 Q n a1 a3 σ → xJ (SHP, γ) Y_VectorSolverModel_named (d + 7) b0 76 [(0, .ref 50), (1, .int a1), (3, .int a3)] [] σ Q := by
  intro n
  induction n with
  | zero => intro a1 a3 σ h; exact h.elim
  | succ n ih =>
    intro a1 a3 σ h
    refine xJ.iload_n (o_VectorSolverModel_named 41 rfl) rfl ?_
    refine xJ.aload_n (o_VectorSolverModel_named 42 rfl) rfl ?_
    refine xJ.getfield (o_VectorSolverModel_named 43 rfl) f_VectorSolverModel_220 rfl rfl ?_
    refine xJ.icmp_ge (tgt := 118) (o_VectorSolverModel_named 44 rfl) (by decide) (fun z => ?_) (fun z => ?_)
    · replace h := h.1 z
      refine xJ.aload_n (o_VectorSolverModel_named 65 rfl) rfl ?_
      refine xJ.aload_n (o_VectorSolverModel_named 66 rfl) rfl ?_
      refine xJ.getfield (o_VectorSolverModel_named 67 rfl) f_VectorSolverModel_407 rfl rfl ?_
      refine xJ.aload_n (o_VectorSolverModel_named 68 rfl) rfl ?_
      refine xJ.getfield (o_VectorSolverModel_named 69 rfl) f_VectorSolverModel_249 rfl rfl ?_
      refine xJ.aload_n (o_VectorSolverModel_named 70 rfl) rfl ?_
      refine xJ.getfield (o_VectorSolverModel_named 71 rfl) f_VectorSolverModel_410 rfl rfl ?_
      refine xJ.isub (o_VectorSolverModel_named 72 rfl) ?_
      refine xJ.lshl (o_VectorSolverModel_named 73 rfl) rfl ?_
      refine xJ.callV (Y' := Y_VectorSolverModel_lay1) (o_VectorSolverModel_named 74 rfl) m_VectorSolverModel_401 y_VectorSolverModel_lay1 im_VectorSolverModel_lay1 se_VectorSolverModel_lay1 rfl rfl (s_VectorSolverModel_lay1 h) rfl rfl (Nat.le_of_ble_eq_true rfl) (fun _ hx => by cases hx) (fun v u q => ?_) (fun n u q => q)
      obtain ⟨rfl, h⟩ := xqv_get q
      refine xJ.aload_n (o_VectorSolverModel_named 75 rfl) rfl ?_
      refine xJ.callV (Y' := Y_VectorSolverModel_workOut) (o_VectorSolverModel_named 76 rfl) m_VectorSolverModel_404 y_VectorSolverModel_workOut im_VectorSolverModel_workOut se_VectorSolverModel_workOut rfl rfl (s_VectorSolverModel_workOut h) rfl rfl (Nat.le_of_ble_eq_true rfl) (fun _ hx => by cases hx) (fun v u q => ?_) (fun n u q => q)
      obtain ⟨r, rfl, h⟩ := xqi_get q
      refine xJ.istore_n (o_VectorSolverModel_named 77 rfl) (by decide) ?_
      refine xJ.aload_n (o_VectorSolverModel_named 78 rfl) rfl ?_
      refine xJ.getfield (o_VectorSolverModel_named 79 rfl) f_VectorSolverModel_116 rfl rfl ?_
      refine xJ.bipush (v := 64) (o_VectorSolverModel_named 80 rfl) (by decide) ?_
      refine xJ.aload_n (o_VectorSolverModel_named 81 rfl) rfl ?_
      refine xJ.getfield (o_VectorSolverModel_named 82 rfl) f_VectorSolverModel_73 rfl rfl ?_
      refine xJ.iload_n (o_VectorSolverModel_named 83 rfl) rfl ?_
      refine xJ.iaload (o_VectorSolverModel_named 84 rfl) rfl h.1 ?_
      replace h := h.2
      refine xJ.imul (o_VectorSolverModel_named 85 rfl) ?_
      refine xJ.laload (o_VectorSolverModel_named 86 rfl) rfl h.1 ?_
      replace h := h.2
      exact xJ.lreturn (o_VectorSolverModel_named 87 rfl) rfl h
    · replace h := h.2 z
      refine xJ.aload_n (o_VectorSolverModel_named 45 rfl) rfl ?_
      refine xJ.getfield (o_VectorSolverModel_named 46 rfl) f_VectorSolverModel_119 rfl rfl ?_
      refine xJ.iload_n (o_VectorSolverModel_named 47 rfl) rfl ?_
      refine xJ.iload_n (o_VectorSolverModel_named 48 rfl) rfl ?_
      refine xJ.aload_n (o_VectorSolverModel_named 49 rfl) rfl ?_
      refine xJ.getfield (o_VectorSolverModel_named 50 rfl) f_VectorSolverModel_73 rfl rfl ?_
      refine xJ.iload_n (o_VectorSolverModel_named 51 rfl) rfl ?_
      refine xJ.iaload (o_VectorSolverModel_named 52 rfl) rfl h.1 ?_
      replace h := h.2
      refine xJ.icmp_gt (tgt := 103) (o_VectorSolverModel_named 53 rfl) (by decide) (fun z => ?_) (fun z => ?_)
      · replace h := h.1 z
        refine xJ.iconst (v := 0) (o_VectorSolverModel_named 56 rfl) (by decide) ?_
        exact xJ.lvs (by exact ⟨rfl, rfl, rfl, trivial⟩) (sw_VectorSolverModel_named_104 ih h)
      · replace h := h.2 z
        refine xJ.iconst (v := 1) (o_VectorSolverModel_named 54 rfl) (by decide) ?_
        refine xJ.goto (tgt := 104) (o_VectorSolverModel_named 55 rfl) (by decide) ?_
        exact xJ.lvs (by exact ⟨rfl, rfl, rfl, trivial⟩) (sw_VectorSolverModel_named_104 ih h)
set_option maxRecDepth 20000 in
theorem sw_VectorSolverModel_named_62 {γ : xG1} {d b0 : Nat} {Q : xO → xS → Prop} {a1 : Int32} {t1 : Int32} {σ : xS} (h : w_VectorSolverModel_named_62 Q a1 t1 σ) : xJ (SHP, γ) Y_VectorSolverModel_named (d + 7) b0 62 [(0, .ref 50), (1, .int a1)] [.int t1, .ref 50] σ Q := by
  refine xJ.putI (o_VectorSolverModel_named 33 rfl) f_VectorSolverModel_126 rfl rfl rfl ?_
  replace h := h _ rfl
  refine xJ.aload_n (o_VectorSolverModel_named 34 rfl) rfl ?_
  refine xJ.getfield (o_VectorSolverModel_named 35 rfl) f_VectorSolverModel_126 rfl rfl ?_
  refine xJ.if_le (tgt := 74) (o_VectorSolverModel_named 36 rfl) (by decide) (fun z => ?_) (fun z => ?_)
  · replace h := h.1 z
    refine xJ.iconst (v := 0) (o_VectorSolverModel_named 39 rfl) (by decide) ?_
    refine xJ.istore_n (o_VectorSolverModel_named 40 rfl) (by decide) ?_
    obtain ⟨m, h⟩ := h
    exact xJ.lvs (by exact ⟨rfl, rfl, rfl, trivial⟩) (sw_VectorSolverModel_named_76 m _ _ _ h)
  · replace h := h.2 z
    refine xJ.lconst (v := 0) (o_VectorSolverModel_named 37 rfl) (by decide) ?_
    exact xJ.lreturn (o_VectorSolverModel_named 38 rfl) rfl h
set_option maxRecDepth 20000 in
theorem sw_VectorSolverModel_named_57 {γ : xG1} {d b0 : Nat} {Q : xO → xS → Prop} {a1 : Int32} {σ : xS} (h : w_VectorSolverModel_named_57 Q a1 σ) : xJ (SHP, γ) Y_VectorSolverModel_named (d + 7) b0 57 [(0, .ref 50), (1, .int a1)] [.ref 50] σ Q := by
  refine xJ.iconst (v := 2) (o_VectorSolverModel_named 30 rfl) (by decide) ?_
  refine xJ.goto (tgt := 62) (o_VectorSolverModel_named 31 rfl) (by decide) ?_
  exact xJ.lvs (by exact ⟨rfl, rfl, trivial⟩) (sw_VectorSolverModel_named_62 h)
set_option maxRecDepth 20000 in
theorem sw_VectorSolverModel_named_31 {γ : xG1} {d b0 : Nat} {Q : xO → xS → Prop} {a1 : Int32} {t0 : Int32} {σ : xS} (h : w_VectorSolverModel_named_31 Q a1 t0 σ) : xJ (SHP, γ) Y_VectorSolverModel_named (d + 7) b0 31 [(0, .ref 50), (1, .int a1)] [.int t0] σ Q := by
  refine xJ.istore_n (o_VectorSolverModel_named 17 rfl) (by decide) ?_
  refine xJ.aload_n (o_VectorSolverModel_named 18 rfl) rfl ?_
  refine xJ.iload_n (o_VectorSolverModel_named 19 rfl) rfl ?_
  refine xJ.if_ne (tgt := 41) (o_VectorSolverModel_named 20 rfl) (by decide) (fun z => ?_) (fun z => ?_)
  · replace h := h.1 z
    refine xJ.aload_n (o_VectorSolverModel_named 23 rfl) rfl ?_
    refine xJ.getfield (o_VectorSolverModel_named 24 rfl) f_VectorSolverModel_420 rfl rfl ?_
    refine xJ.if_eq (tgt := 57) (o_VectorSolverModel_named 25 rfl) (by decide) (fun z => ?_) (fun z => ?_)
    · replace h := h.1 z
      exact xJ.lvs (by exact ⟨rfl, rfl, trivial⟩) (sw_VectorSolverModel_named_57 h)
    · replace h := h.2 z
      refine xJ.aload_n (o_VectorSolverModel_named 26 rfl) rfl ?_
      refine xJ.getfield (o_VectorSolverModel_named 27 rfl) f_VectorSolverModel_249 rfl rfl ?_
      refine xJ.bipush (v := 16) (o_VectorSolverModel_named 28 rfl) (by decide) ?_
      refine xJ.icmp_le (tgt := 61) (o_VectorSolverModel_named 29 rfl) (by decide) (fun z => ?_) (fun z => ?_)
      · replace h := h.1 z
        refine xJ.iconst (v := 0) (o_VectorSolverModel_named 32 rfl) (by decide) ?_
        exact xJ.lvs (by exact ⟨rfl, rfl, trivial⟩) (sw_VectorSolverModel_named_62 h)
      · replace h := h.2 z
        exact xJ.lvs (by exact ⟨rfl, rfl, trivial⟩) (sw_VectorSolverModel_named_57 h)
  · replace h := h.2 z
    refine xJ.iconst (v := 1) (o_VectorSolverModel_named 21 rfl) (by decide) ?_
    refine xJ.goto (tgt := 62) (o_VectorSolverModel_named 22 rfl) (by decide) ?_
    exact xJ.lvs (by exact ⟨rfl, rfl, trivial⟩) (sw_VectorSolverModel_named_62 h)
set_option maxRecDepth 20000 in
theorem sw_VectorSolverModel_named_30 {γ : xG1} {d b0 : Nat} {Q : xO → xS → Prop} {a1 : Int32} {σ : xS} (h : w_VectorSolverModel_named_30 Q a1 σ) : xJ (SHP, γ) Y_VectorSolverModel_named (d + 7) b0 30 [(0, .ref 50), (1, .int a1)] [] σ Q := by
  refine xJ.iconst (v := 0) (o_VectorSolverModel_named 16 rfl) (by decide) ?_
  exact xJ.lvs (by exact ⟨rfl, rfl, trivial⟩) (sw_VectorSolverModel_named_31 h)
set_option maxRecDepth 20000 in
theorem s_VectorSolverModel_named {γ : xG1} {d : Nat} {Q : xO → xS → Prop} {σ : xS} {a1 : Int32} (h : wp_VectorSolverModel_named Q σ a1) : xM (SHP, γ) Y_VectorSolverModel_named (d + 7) [.ref 50, .int a1] σ Q := by
  refine xM.of (by decide) (Nat.le_of_ble_eq_true rfl) ?_
  refine xJ.iload_n (o_VectorSolverModel_named 0 rfl) rfl ?_
  refine xJ.if_lt (tgt := 30) (o_VectorSolverModel_named 1 rfl) (by decide) (fun z => ?_) (fun z => ?_)
  · replace h := h.1 z
    exact xJ.lvs (by exact ⟨rfl, rfl, trivial⟩) (sw_VectorSolverModel_named_30 h)
  · replace h := h.2 z
    refine xJ.iload_n (o_VectorSolverModel_named 2 rfl) rfl ?_
    refine xJ.aload_n (o_VectorSolverModel_named 3 rfl) rfl ?_
    refine xJ.getfield (o_VectorSolverModel_named 4 rfl) f_VectorSolverModel_183 rfl rfl ?_
    refine xJ.icmp_ge (tgt := 30) (o_VectorSolverModel_named 5 rfl) (by decide) (fun z => ?_) (fun z => ?_)
    · replace h := h.1 z
      exact xJ.lvs (by exact ⟨rfl, rfl, trivial⟩) (sw_VectorSolverModel_named_30 h)
    · replace h := h.2 z
      refine xJ.aload_n (o_VectorSolverModel_named 6 rfl) rfl ?_
      refine xJ.getfield (o_VectorSolverModel_named 7 rfl) f_VectorSolverModel_41 rfl rfl ?_
      refine xJ.aload_n (o_VectorSolverModel_named 8 rfl) rfl ?_
      refine xJ.getfield (o_VectorSolverModel_named 9 rfl) f_VectorSolverModel_73 rfl rfl ?_
      refine xJ.iload_n (o_VectorSolverModel_named 10 rfl) rfl ?_
      refine xJ.iaload (o_VectorSolverModel_named 11 rfl) rfl h.1 ?_
      replace h := h.2
      refine xJ.iaload (o_VectorSolverModel_named 12 rfl) rfl h.1 ?_
      replace h := h.2
      refine xJ.if_ne (tgt := 30) (o_VectorSolverModel_named 13 rfl) (by decide) (fun z => ?_) (fun z => ?_)
      · replace h := h.1 z
        exact xJ.lvs (by exact ⟨rfl, rfl, trivial⟩) (sw_VectorSolverModel_named_30 h)
      · replace h := h.2 z
        refine xJ.iconst (v := 1) (o_VectorSolverModel_named 14 rfl) (by decide) ?_
        refine xJ.goto (tgt := 31) (o_VectorSolverModel_named 15 rfl) (by decide) ?_
        exact xJ.lvs (by exact ⟨rfl, rfl, trivial⟩) (sw_VectorSolverModel_named_31 h)
