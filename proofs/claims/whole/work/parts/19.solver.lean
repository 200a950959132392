def wp_VectorSolver_feed (Q : xO → xS → Prop) (σ : xS) (a1 : Int32) (a2 : Int32) (a3 : Int32) (a4 : Int32) (a5 : Int32) : Prop :=
  (((xi σ 1 1) ≤ 65516 → wp_Text_append (xqv (fun u1 => wp_Text_append (xqv (fun u3 => wp_Text_append (xqv (fun u5 => wp_Text_append (xqv (fun u7 => wp_Text_append (xqv (fun u9 => Q (.inl (some (.int (xi u9 1 1)))) u9) (fun n u => Q (.inr n) u)) u7 a5) (fun n u => Q (.inr n) u)) u5 a4) (fun n u => Q (.inr n) u)) u3 a3) (fun n u => Q (.inr n) u)) u1 a2) (fun n u => Q (.inr n) u)) σ a1) ∧ (¬ (xi σ 1 1) ≤ 65516 → (1 ≤ xb σ ∧ Q (.inr 0) (xpb σ (xb σ - 1)))))
set_option maxRecDepth 20000 in
theorem s_VectorSolver_feed {γ : xG1} {d : Nat} {Q : xO → xS → Prop} {σ : xS} {a1 : Int32} {a2 : Int32} {a3 : Int32} {a4 : Int32} {a5 : Int32} (h : wp_VectorSolver_feed Q σ a1 a2 a3 a4 a5) : xM (SHP, γ) Y_VectorSolver_feed (d + 9) [.ref 0, .int a1, .int a2, .int a3, .int a4, .int a5] σ Q := by
  refine xM.of (by decide) (Nat.le_of_ble_eq_true rfl) ?_
  refine xJ.aload_n (o_VectorSolver_feed 0 rfl) rfl ?_
  refine xJ.getfield (o_VectorSolver_feed 1 rfl) f_VectorSolver_10 rfl rfl ?_
  refine xJ.getfield (o_VectorSolver_feed 2 rfl) f_VectorSolver_56 rfl rfl ?_
  refine xJ.ldc (v := 65516) (o_VectorSolver_feed 3 rfl) k_VectorSolver_59 ?_
  refine xJ.icmp_le (tgt := 22) (o_VectorSolver_feed 4 rfl) (by decide) (fun z => ?_) (fun z => ?_)
  · replace h := h.1 z
    refine xJ.aload_n (o_VectorSolver_feed 10 rfl) rfl ?_
    refine xJ.getfield (o_VectorSolver_feed 11 rfl) f_VectorSolver_10 rfl rfl ?_
    refine xJ.iload_n (o_VectorSolver_feed 12 rfl) rfl ?_
    refine xJ.callV (Y' := Y_Text_append) (o_VectorSolver_feed 13 rfl) m_VectorSolver_67 y_Text_append im_Text_append se_Text_append rfl rfl (s_Text_append h) rfl rfl (Nat.le_of_ble_eq_true rfl) (fun _ hx => by cases hx) (fun v u q => ?_) (fun n u q => q)
    obtain ⟨rfl, h⟩ := xqv_get q
    refine xJ.aload_n (o_VectorSolver_feed 14 rfl) rfl ?_
    refine xJ.getfield (o_VectorSolver_feed 15 rfl) f_VectorSolver_10 rfl rfl ?_
    refine xJ.iload_n (o_VectorSolver_feed 16 rfl) rfl ?_
    refine xJ.callV (Y' := Y_Text_append) (o_VectorSolver_feed 17 rfl) m_VectorSolver_67 y_Text_append im_Text_append se_Text_append rfl rfl (s_Text_append h) rfl rfl (Nat.le_of_ble_eq_true rfl) (fun _ hx => by cases hx) (fun v u q => ?_) (fun n u q => q)
    obtain ⟨rfl, h⟩ := xqv_get q
    refine xJ.aload_n (o_VectorSolver_feed 18 rfl) rfl ?_
    refine xJ.getfield (o_VectorSolver_feed 19 rfl) f_VectorSolver_10 rfl rfl ?_
    refine xJ.iload_n (o_VectorSolver_feed 20 rfl) rfl ?_
    refine xJ.callV (Y' := Y_Text_append) (o_VectorSolver_feed 21 rfl) m_VectorSolver_67 y_Text_append im_Text_append se_Text_append rfl rfl (s_Text_append h) rfl rfl (Nat.le_of_ble_eq_true rfl) (fun _ hx => by cases hx) (fun v u q => ?_) (fun n u q => q)
    obtain ⟨rfl, h⟩ := xqv_get q
    refine xJ.aload_n (o_VectorSolver_feed 22 rfl) rfl ?_
    refine xJ.getfield (o_VectorSolver_feed 23 rfl) f_VectorSolver_10 rfl rfl ?_
    refine xJ.iload (o_VectorSolver_feed 24 rfl) rfl ?_
    refine xJ.callV (Y' := Y_Text_append) (o_VectorSolver_feed 25 rfl) m_VectorSolver_67 y_Text_append im_Text_append se_Text_append rfl rfl (s_Text_append h) rfl rfl (Nat.le_of_ble_eq_true rfl) (fun _ hx => by cases hx) (fun v u q => ?_) (fun n u q => q)
    obtain ⟨rfl, h⟩ := xqv_get q
    refine xJ.aload_n (o_VectorSolver_feed 26 rfl) rfl ?_
    refine xJ.getfield (o_VectorSolver_feed 27 rfl) f_VectorSolver_10 rfl rfl ?_
    refine xJ.iload (o_VectorSolver_feed 28 rfl) rfl ?_
    refine xJ.callV (Y' := Y_Text_append) (o_VectorSolver_feed 29 rfl) m_VectorSolver_67 y_Text_append im_Text_append se_Text_append rfl rfl (s_Text_append h) rfl rfl (Nat.le_of_ble_eq_true rfl) (fun _ hx => by cases hx) (fun v u q => ?_) (fun n u q => q)
    obtain ⟨rfl, h⟩ := xqv_get q
    refine xJ.aload_n (o_VectorSolver_feed 30 rfl) rfl ?_
    refine xJ.getfield (o_VectorSolver_feed 31 rfl) f_VectorSolver_10 rfl rfl ?_
    refine xJ.getfield (o_VectorSolver_feed 32 rfl) f_VectorSolver_56 rfl rfl ?_
    exact xJ.ireturn (o_VectorSolver_feed 33 rfl) rfl h
  · replace h := h.2 z
    exact xJ.throwNew (o_VectorSolver_feed 5 rfl) (o_VectorSolver_feed 6 rfl) (o_VectorSolver_feed 7 rfl) (o_VectorSolver_feed 8 rfl) (o_VectorSolver_feed 9 rfl) e_VectorSolver_60_62_64 h.1 (by omega) (Nat.le_of_ble_eq_true rfl) (fun _ hx => by cases hx) h.2
def w_VectorSolver_trim_21 (Q : xO → xS → Prop) (σ : xS) : Prop :=
  (1 ≤ xb σ ∧ Q (.inr 1) (xpb σ (xb σ - 1)))
def wp_VectorSolver_trim (Q : xO → xS → Prop) (σ : xS) (a1 : Int32) : Prop :=
  ((a1 < 0 → w_VectorSolver_trim_21 Q  σ) ∧ (¬ a1 < 0 → ((20 < a1 → w_VectorSolver_trim_21 Q  σ) ∧ (¬ 20 < a1 → ((a1 ≤ (xi σ 1 1) → (∀ s1 : xS, s1 = xpi σ 1 1 ((xi σ 1 1) - a1) → Q (.inl (some (.int (xi s1 1 1)))) s1)) ∧ (¬ a1 ≤ (xi σ 1 1) → w_VectorSolver_trim_21 Q  σ))))))
set_option maxRecDepth 20000 in
theorem sw_VectorSolver_trim_21 {γ : xG1} {d b0 : Nat} {Q : xO → xS → Prop} {σ : xS} (h : w_VectorSolver_trim_21 Q  σ) : xJ (SHP, γ) Y_VectorSolver_trim (d + 9) b0 21 [] [] σ Q := by
  exact xJ.throwNew (o_VectorSolver_trim 10 rfl) (o_VectorSolver_trim 11 rfl) (o_VectorSolver_trim 12 rfl) (o_VectorSolver_trim 13 rfl) (o_VectorSolver_trim 14 rfl) e_VectorSolver_71_73_75 h.1 (by omega) (Nat.le_of_ble_eq_true rfl) (fun _ hx => by cases hx) h.2
set_option maxRecDepth 20000 in
theorem s_VectorSolver_trim {γ : xG1} {d : Nat} {Q : xO → xS → Prop} {σ : xS} {a1 : Int32} (h : wp_VectorSolver_trim Q σ a1) : xM (SHP, γ) Y_VectorSolver_trim (d + 9) [.ref 0, .int a1] σ Q := by
  refine xM.of (by decide) (Nat.le_of_ble_eq_true rfl) ?_
  refine xJ.iload_n (o_VectorSolver_trim 0 rfl) rfl ?_
  refine xJ.if_lt (tgt := 21) (o_VectorSolver_trim 1 rfl) (by decide) (fun z => ?_) (fun z => ?_)
  · replace h := h.1 z
    exact xJ.lvs (by exact trivial) (sw_VectorSolver_trim_21 h)
  · replace h := h.2 z
    refine xJ.iload_n (o_VectorSolver_trim 2 rfl) rfl ?_
    refine xJ.bipush (v := 20) (o_VectorSolver_trim 3 rfl) (by decide) ?_
    refine xJ.icmp_gt (tgt := 21) (o_VectorSolver_trim 4 rfl) (by decide) (fun z => ?_) (fun z => ?_)
    · replace h := h.1 z
      exact xJ.lvs (by exact trivial) (sw_VectorSolver_trim_21 h)
    · replace h := h.2 z
      refine xJ.iload_n (o_VectorSolver_trim 5 rfl) rfl ?_
      refine xJ.aload_n (o_VectorSolver_trim 6 rfl) rfl ?_
      refine xJ.getfield (o_VectorSolver_trim 7 rfl) f_VectorSolver_10 rfl rfl ?_
      refine xJ.getfield (o_VectorSolver_trim 8 rfl) f_VectorSolver_56 rfl rfl ?_
      refine xJ.icmp_le (tgt := 31) (o_VectorSolver_trim 9 rfl) (by decide) (fun z => ?_) (fun z => ?_)
      · replace h := h.1 z
        refine xJ.aload_n (o_VectorSolver_trim 15 rfl) rfl ?_
        refine xJ.getfield (o_VectorSolver_trim 16 rfl) f_VectorSolver_10 rfl rfl ?_
        refine xJ.dup (o_VectorSolver_trim 17 rfl) rfl ?_
        refine xJ.getfield (o_VectorSolver_trim 18 rfl) f_VectorSolver_56 rfl rfl ?_
        refine xJ.iload_n (o_VectorSolver_trim 19 rfl) rfl ?_
        refine xJ.isub (o_VectorSolver_trim 20 rfl) ?_
        refine xJ.putI (o_VectorSolver_trim 21 rfl) f_VectorSolver_56 rfl rfl rfl ?_
        replace h := h _ rfl
        refine xJ.aload_n (o_VectorSolver_trim 22 rfl) rfl ?_
        refine xJ.getfield (o_VectorSolver_trim 23 rfl) f_VectorSolver_10 rfl rfl ?_
        refine xJ.getfield (o_VectorSolver_trim 24 rfl) f_VectorSolver_56 rfl rfl ?_
        exact xJ.ireturn (o_VectorSolver_trim 25 rfl) rfl h
      · replace h := h.2 z
        exact xJ.lvs (by exact trivial) (sw_VectorSolver_trim_21 h)
theorem sc_VectorSolver_fault_1 {x : Int32} {P : Nat → Prop} (k0 : x = 0 → P 28) (k1 : x = 1 → P 36) (kd : ¬ x = 0 ∧ ¬ x = 1 → P 44) : ∃ t : Nat, xdsl 1 43 #[(0, 27), (1, 35)] x = (t : Int) ∧ P t := by
  by_cases h0_0 : x = 0
  · subst h0_0; exact ⟨28, by decide, k0 (rfl)⟩
  by_cases h1_0 : x = 1
  · subst h1_0; exact ⟨36, by decide, k1 (rfl)⟩
  have nh0_0 := lv_neT h0_0 (show (0 : Int32).toInt = 0 by decide)
  have nh1_0 := lv_neT h1_0 (show (1 : Int32).toInt = 1 by decide)
  refine ⟨44, ?_, kd ⟨h0_0, h1_0⟩⟩
  show (1 : Int) + Op.lookupswitch.offset [(0, 27), (1, 35)] 43 x.toInt = _
  rw [lv_osw h0_0 (show (0 : Int32).toInt = 0 by decide), lv_osw h1_0 (show (1 : Int32).toInt = 1 by decide)]
  rfl
def wp_VectorSolver_fault (Q : xO → xS → Prop) (σ : xS) (a1 : Int32) : Prop :=
  ((a1 = 0 → Q (.inl (some (.int (xi σ 1 2)))) σ) ∧ (a1 = 1 → Q (.inl (some (.int (xi σ 1 3)))) σ) ∧ (¬ a1 = 0 ∧ ¬ a1 = 1 → (1 ≤ xb σ ∧ Q (.inr 1) (xpb σ (xb σ - 1)))))
set_option maxRecDepth 20000 in
theorem s_VectorSolver_fault {γ : xG1} {d : Nat} {Q : xO → xS → Prop} {σ : xS} {a1 : Int32} (h : wp_VectorSolver_fault Q σ a1) : xM (SHP, γ) Y_VectorSolver_fault (d + 9) [.ref 0, .int a1] σ Q := by
  refine xM.of (by decide) (Nat.le_of_ble_eq_true rfl) ?_
  refine xJ.iload_n (o_VectorSolver_fault 0 rfl) rfl ?_
  refine xJ.lsw (o_VectorSolver_fault 1 rfl) (by decide) (sc_VectorSolver_fault_1 (fun z => ?_) (fun z => ?_) (fun z => ?_))
  · replace h := h.1 z
    refine xJ.aload_n (o_VectorSolver_fault 2 rfl) rfl ?_
    refine xJ.getfield (o_VectorSolver_fault 3 rfl) f_VectorSolver_10 rfl rfl ?_
    refine xJ.getfield (o_VectorSolver_fault 4 rfl) f_VectorSolver_80 rfl rfl ?_
    exact xJ.ireturn (o_VectorSolver_fault 5 rfl) rfl h
  · replace h := h.2.1 z
    refine xJ.aload_n (o_VectorSolver_fault 6 rfl) rfl ?_
    refine xJ.getfield (o_VectorSolver_fault 7 rfl) f_VectorSolver_10 rfl rfl ?_
    refine xJ.getfield (o_VectorSolver_fault 8 rfl) f_VectorSolver_83 rfl rfl ?_
    exact xJ.ireturn (o_VectorSolver_fault 9 rfl) rfl h
  · replace h := h.2.2 z
    exact xJ.throwNew (o_VectorSolver_fault 10 rfl) (o_VectorSolver_fault 11 rfl) (o_VectorSolver_fault 12 rfl) (o_VectorSolver_fault 13 rfl) (o_VectorSolver_fault 14 rfl) e_VectorSolver_71_86_75 h.1 (by omega) (Nat.le_of_ble_eq_true rfl) (fun _ hx => by cases hx) h.2
def w_VectorSolver_countFalse_54 (Q : xO → xS → Prop) : Nat → Int32 → Int32 → xS → Prop
  | 0 => fun _ _ _ => False
  | n + 1 => fun a2 a3 σ =>
    (((xi σ 5 10) ≤ a3 → Q (.inl (some (.int a2))) σ) ∧ (¬ (xi σ 5 10) ≤ a3 → (vp_in a3 500 ∧ (vp_in (xi σ 22 a3.toNatClampNeg) 2000 ∧ ((¬ (lg_cmp (xl σ 49 (xi σ 22 a3.toNatClampNeg).toNatClampNeg) 0) = 0 → (∀ x3 : Int32, x3 = a3 + 1 → w_VectorSolver_countFalse_54 Q n a2 x3 σ)) ∧ ((lg_cmp (xl σ 49 (xi σ 22 a3.toNatClampNeg).toNatClampNeg) 0) = 0 → (∀ x4 : Int32, x4 = a2 + 1 → (∀ x5 : Int32, x5 = a3 + 1 → w_VectorSolver_countFalse_54 Q n x4 x5 σ))))))))
def wp_VectorSolver_countFalse (Q : xO → xS → Prop) (σ : xS) (a1 : Int32) : Prop :=
  wp_Evaluator_evaluate_48 (xqv (fun u1 => ((a1 = (-1) → ∃ m, w_VectorSolver_countFalse_54 Q m 0 0 u1) ∧ (¬ a1 = (-1) → (vp_in a1 2000 ∧ ((¬ (lg_cmp (xl u1 49 a1.toNatClampNeg) 0) = 0 → ∃ m, w_VectorSolver_countFalse_54 Q m 0 0 u1) ∧ ((lg_cmp (xl u1 49 a1.toNatClampNeg) 0) = 0 → ∃ m, w_VectorSolver_countFalse_54 Q m 1 0 u1)))))) (fun n u => Q (.inr n) u)) σ (xi σ 0 6) (xi σ 0 7) ((xi σ 6 9) - 1)
set_option maxRecDepth 20000 in
theorem sw_VectorSolver_countFalse_54 {γ : xG1} {d b0 : Nat} {Q : xO → xS → Prop} : ∀ (n : Nat) (a2 : Int32) (a3 : Int32) (σ : xS), w_VectorSolver_countFalse_54 Q n a2 a3 σ → xJ (SHP, γ) Y_VectorSolver_countFalse (d + 5) b0 54 [(0, .ref 0), (2, .int a2), (3, .int a3)] [] σ Q := by
  intro n
  induction n with
  | zero => intro a2 a3 σ h; exact h.elim
  | succ n ih =>
    intro a2 a3 σ h
    refine xJ.iload_n (o_VectorSolver_countFalse 30 rfl) rfl ?_
    refine xJ.aload_n (o_VectorSolver_countFalse 31 rfl) rfl ?_
    refine xJ.getfield (o_VectorSolver_countFalse 32 rfl) f_VectorSolver_19 rfl rfl ?_
    refine xJ.getfield (o_VectorSolver_countFalse 33 rfl) f_VectorSolver_182 rfl rfl ?_
    refine xJ.icmp_ge (tgt := 96) (o_VectorSolver_countFalse 34 rfl) (by decide) (fun z => ?_) (fun z => ?_)
    · replace h := h.1 z
      refine xJ.iload_n (o_VectorSolver_countFalse 50 rfl) rfl ?_
      exact xJ.ireturn (o_VectorSolver_countFalse 51 rfl) rfl h
    · replace h := h.2 z
      refine xJ.aload_n (o_VectorSolver_countFalse 35 rfl) rfl ?_
      refine xJ.getfield (o_VectorSolver_countFalse 36 rfl) f_VectorSolver_44 rfl rfl ?_
      refine xJ.getfield (o_VectorSolver_countFalse 37 rfl) f_VectorSolver_155 rfl rfl ?_
      refine xJ.aload_n (o_VectorSolver_countFalse 38 rfl) rfl ?_
      refine xJ.getfield (o_VectorSolver_countFalse 39 rfl) f_VectorSolver_19 rfl rfl ?_
      refine xJ.getfield (o_VectorSolver_countFalse 40 rfl) f_VectorSolver_215 rfl rfl ?_
      refine xJ.iload_n (o_VectorSolver_countFalse 41 rfl) rfl ?_
      refine xJ.iaload (o_VectorSolver_countFalse 42 rfl) rfl h.1 ?_
      replace h := h.2
      refine xJ.laload (o_VectorSolver_countFalse 43 rfl) rfl h.1 ?_
      replace h := h.2
      refine xJ.lconst (v := 0) (o_VectorSolver_countFalse 44 rfl) (by decide) ?_
      refine xJ.lcmp (o_VectorSolver_countFalse 45 rfl) ?_
      refine xJ.if_ne (tgt := 90) (o_VectorSolver_countFalse 46 rfl) (by decide) (fun z => ?_) (fun z => ?_)
      · replace h := h.1 z
        refine xJ.iincC (w := 1) (o_VectorSolver_countFalse 48 rfl) rfl (by decide) (by decide) ?_
        replace h := h _ rfl
        refine xJ.goto (tgt := 54) (o_VectorSolver_countFalse 49 rfl) (by decide) ?_
        exact xJ.lvs (by exact ⟨rfl, rfl, rfl, trivial⟩) (ih _ _ _ h)
      · replace h := h.2 z
        refine xJ.iincC (w := 1) (o_VectorSolver_countFalse 47 rfl) rfl (by decide) (by decide) ?_
        replace h := h _ rfl
        refine xJ.iincC (w := 1) (o_VectorSolver_countFalse 48 rfl) rfl (by decide) (by decide) ?_
        replace h := h _ rfl
        refine xJ.goto (tgt := 54) (o_VectorSolver_countFalse 49 rfl) (by decide) ?_
        exact xJ.lvs (by exact ⟨rfl, rfl, rfl, trivial⟩) (ih _ _ _ h)
set_option maxRecDepth 20000 in
theorem s_VectorSolver_countFalse {γ : xG1} {d : Nat} {Q : xO → xS → Prop} {σ : xS} {a1 : Int32} (h : wp_VectorSolver_countFalse Q σ a1) : xM (SHP, γ) Y_VectorSolver_countFalse (d + 5) [.ref 0, .int a1] σ Q := by
  refine xM.of (by decide) (Nat.le_of_ble_eq_true rfl) ?_
  refine xJ.aload_n (o_VectorSolver_countFalse 0 rfl) rfl ?_
  refine xJ.getfield (o_VectorSolver_countFalse 1 rfl) f_VectorSolver_44 rfl rfl ?_
  refine xJ.aload_n (o_VectorSolver_countFalse 2 rfl) rfl ?_
  refine xJ.getfield (o_VectorSolver_countFalse 3 rfl) f_VectorSolver_53 rfl rfl ?_
  refine xJ.aload_n (o_VectorSolver_countFalse 4 rfl) rfl ?_
  refine xJ.getfield (o_VectorSolver_countFalse 5 rfl) f_VectorSolver_129 rfl rfl ?_
  refine xJ.aload_n (o_VectorSolver_countFalse 6 rfl) rfl ?_
  refine xJ.getfield (o_VectorSolver_countFalse 7 rfl) f_VectorSolver_19 rfl rfl ?_
  refine xJ.getfield (o_VectorSolver_countFalse 8 rfl) f_VectorSolver_102 rfl rfl ?_
  refine xJ.getfield (o_VectorSolver_countFalse 9 rfl) f_VectorSolver_176 rfl rfl ?_
  refine xJ.iconst (v := 1) (o_VectorSolver_countFalse 10 rfl) (by decide) ?_
  refine xJ.isub (o_VectorSolver_countFalse 11 rfl) ?_
  refine xJ.callV (Y' := Y_Evaluator_evaluate) (o_VectorSolver_countFalse 12 rfl) m_VectorSolver_151 y_Evaluator_evaluate im_Evaluator_evaluate se_Evaluator_evaluate rfl rfl (s_Evaluator_evaluate_48 h) rfl rfl (Nat.le_of_ble_eq_true rfl) (fun _ hx => by cases hx) (fun v u q => ?_) (fun n u q => q)
  obtain ⟨rfl, h⟩ := xqv_get q
  refine xJ.iload_n (o_VectorSolver_countFalse 13 rfl) rfl ?_
  refine xJ.iconst (v := (-1)) (o_VectorSolver_countFalse 14 rfl) (by decide) ?_
  refine xJ.icmp_eq (tgt := 50) (o_VectorSolver_countFalse 15 rfl) (by decide) (fun z => ?_) (fun z => ?_)
  · replace h := h.1 z
    refine xJ.iconst (v := 0) (o_VectorSolver_countFalse 26 rfl) (by decide) ?_
    refine xJ.istore_n (o_VectorSolver_countFalse 27 rfl) (by decide) ?_
    refine xJ.iconst (v := 0) (o_VectorSolver_countFalse 28 rfl) (by decide) ?_
    refine xJ.istore_n (o_VectorSolver_countFalse 29 rfl) (by decide) ?_
    obtain ⟨m, h⟩ := h
    exact xJ.lvs (by exact ⟨rfl, rfl, rfl, trivial⟩) (sw_VectorSolver_countFalse_54 m _ _ _ h)
  · replace h := h.2 z
    refine xJ.aload_n (o_VectorSolver_countFalse 16 rfl) rfl ?_
    refine xJ.getfield (o_VectorSolver_countFalse 17 rfl) f_VectorSolver_44 rfl rfl ?_
    refine xJ.getfield (o_VectorSolver_countFalse 18 rfl) f_VectorSolver_155 rfl rfl ?_
    refine xJ.iload_n (o_VectorSolver_countFalse 19 rfl) rfl ?_
    refine xJ.laload (o_VectorSolver_countFalse 20 rfl) rfl h.1 ?_
    replace h := h.2
    refine xJ.lconst (v := 0) (o_VectorSolver_countFalse 21 rfl) (by decide) ?_
    refine xJ.lcmp (o_VectorSolver_countFalse 22 rfl) ?_
    refine xJ.if_ne (tgt := 50) (o_VectorSolver_countFalse 23 rfl) (by decide) (fun z => ?_) (fun z => ?_)
    · replace h := h.1 z
      refine xJ.iconst (v := 0) (o_VectorSolver_countFalse 26 rfl) (by decide) ?_
      refine xJ.istore_n (o_VectorSolver_countFalse 27 rfl) (by decide) ?_
      refine xJ.iconst (v := 0) (o_VectorSolver_countFalse 28 rfl) (by decide) ?_
      refine xJ.istore_n (o_VectorSolver_countFalse 29 rfl) (by decide) ?_
      obtain ⟨m, h⟩ := h
      exact xJ.lvs (by exact ⟨rfl, rfl, rfl, trivial⟩) (sw_VectorSolver_countFalse_54 m _ _ _ h)
    · replace h := h.2 z
      refine xJ.iconst (v := 1) (o_VectorSolver_countFalse 24 rfl) (by decide) ?_
      refine xJ.goto (tgt := 51) (o_VectorSolver_countFalse 25 rfl) (by decide) ?_
      refine xJ.istore_n (o_VectorSolver_countFalse 27 rfl) (by decide) ?_
      refine xJ.iconst (v := 0) (o_VectorSolver_countFalse 28 rfl) (by decide) ?_
      refine xJ.istore_n (o_VectorSolver_countFalse 29 rfl) (by decide) ?_
      obtain ⟨m, h⟩ := h
      exact xJ.lvs (by exact ⟨rfl, rfl, rfl, trivial⟩) (sw_VectorSolver_countFalse_54 m _ _ _ h)
def wp_VectorSolver_effort (Q : xO → xS → Prop) (σ : xS)  : Prop :=
  wp_Book_size (xqi (fun r2 u1 => Q (.inl (some (.int (jishl (xi σ 6 9) r2)))) u1) (fun n u => Q (.inr n) u)) σ 
set_option maxRecDepth 20000 in
theorem s_VectorSolver_effort {γ : xG1} {d : Nat} {Q : xO → xS → Prop} {σ : xS}  (h : wp_VectorSolver_effort Q σ ) : xM (SHP, γ) Y_VectorSolver_effort (d + 1) [.ref 0] σ Q := by
  refine xM.of (by decide) (Nat.le_of_ble_eq_true rfl) ?_
  refine xJ.aload_n (o_VectorSolver_effort 0 rfl) rfl ?_
  refine xJ.getfield (o_VectorSolver_effort 1 rfl) f_VectorSolver_19 rfl rfl ?_
  refine xJ.getfield (o_VectorSolver_effort 2 rfl) f_VectorSolver_102 rfl rfl ?_
  refine xJ.getfield (o_VectorSolver_effort 3 rfl) f_VectorSolver_176 rfl rfl ?_
  refine xJ.aload_n (o_VectorSolver_effort 4 rfl) rfl ?_
  refine xJ.getfield (o_VectorSolver_effort 5 rfl) f_VectorSolver_19 rfl rfl ?_
  refine xJ.callV (Y' := Y_Book_size) (o_VectorSolver_effort 6 rfl) m_VectorSolver_146 y_Book_size im_Book_size se_Book_size rfl rfl (s_Book_size h) rfl rfl (Nat.le_of_ble_eq_true rfl) (fun _ hx => by cases hx) (fun v u q => ?_) (fun n u q => q)
  obtain ⟨r, rfl, h⟩ := xqi_get q
  refine xJ.ishl (o_VectorSolver_effort 7 rfl) ?_
  exact xJ.ireturn (o_VectorSolver_effort 8 rfl) rfl h
def w_VectorSolver_searchFrom_69 (Q : xO → xS → Prop) (σ : xS) : Prop :=
  (((xi σ 0 6) = (-1) → Q (.inl (some (.int 0))) σ) ∧ (¬ (xi σ 0 6) = (-1) → Q (.inl (some (.int 1))) σ))
def wp_VectorSolver_searchFrom (Q : xO → xS → Prop) (σ : xS) (a1 : Int32) (a2 : Int32) : Prop :=
  wp_VectorSolver_effort (xqi (fun r2 u1 => (∀ s3 : xS, s3 = xpi u1 0 5 ((xi σ 0 5) - r2) → wp_Book_size (xqi (fun r5 u4 => (∀ s6 : xS, s6 = xpi u4 0 7 r5 → (∀ s7 : xS, s7 = xpi s6 0 8 (xi s6 5 8) → wp_Search_least (xqi (fun r9 u8 => (∀ s10 : xS, s10 = xpi u8 0 6 r9 → (((xi s10 0 6) = (-1) → w_VectorSolver_searchFrom_69 Q  s10) ∧ (¬ (xi s10 0 6) = (-1) → wp_VectorSolver_countFalse (xqi (fun r12 u11 => (∀ s13 : xS, s13 = xpi u11 0 9 r12 → w_VectorSolver_searchFrom_69 Q  s13)) (fun n u => Q (.inr n) u)) s10 a2)))) (fun n u => Q (.inr n) u)) s7 a1 (xi s7 0 7) a2))) (fun n u => Q (.inr n) u)) s3 )) (fun n u => Q (.inr n) u)) σ 
set_option maxRecDepth 20000 in
theorem sw_VectorSolver_searchFrom_69 {γ : xG1} {d b0 : Nat} {Q : xO → xS → Prop} {σ : xS} (h : w_VectorSolver_searchFrom_69 Q  σ) : xJ (SHP, γ) Y_VectorSolver_searchFrom (d + 7) b0 69 [(0, .ref 0)] [] σ Q := by
  refine xJ.aload_n (o_VectorSolver_searchFrom 35 rfl) rfl ?_
  refine xJ.getfield (o_VectorSolver_searchFrom 36 rfl) f_VectorSolver_53 rfl rfl ?_
  refine xJ.iconst (v := (-1)) (o_VectorSolver_searchFrom 37 rfl) (by decide) ?_
  refine xJ.icmp_eq (tgt := 81) (o_VectorSolver_searchFrom 38 rfl) (by decide) (fun z => ?_) (fun z => ?_)
  · replace h := h.1 z
    refine xJ.iconst (v := 0) (o_VectorSolver_searchFrom 41 rfl) (by decide) ?_
    exact xJ.zreturn (o_VectorSolver_searchFrom 42 rfl) rfl (Or.inl rfl) h
  · replace h := h.2 z
    refine xJ.iconst (v := 1) (o_VectorSolver_searchFrom 39 rfl) (by decide) ?_
    refine xJ.goto (tgt := 82) (o_VectorSolver_searchFrom 40 rfl) (by decide) ?_
    exact xJ.zreturn (o_VectorSolver_searchFrom 42 rfl) rfl (Or.inr rfl) h
set_option maxRecDepth 20000 in
theorem s_VectorSolver_searchFrom {γ : xG1} {d : Nat} {Q : xO → xS → Prop} {σ : xS} {a1 : Int32} {a2 : Int32} (h : wp_VectorSolver_searchFrom Q σ a1 a2) : xM (SHP, γ) Y_VectorSolver_searchFrom (d + 7) [.ref 0, .int a1, .int a2] σ Q := by
  refine xM.of (by decide) (Nat.le_of_ble_eq_true rfl) ?_
  refine xJ.aload_n (o_VectorSolver_searchFrom 0 rfl) rfl ?_
  refine xJ.dup (o_VectorSolver_searchFrom 1 rfl) rfl ?_
  refine xJ.getfield (o_VectorSolver_searchFrom 2 rfl) f_VectorSolver_49 rfl rfl ?_
  refine xJ.aload_n (o_VectorSolver_searchFrom 3 rfl) rfl ?_
  refine xJ.callV (Y' := Y_VectorSolver_effort) (o_VectorSolver_searchFrom 4 rfl) m_VectorSolver_203 y_VectorSolver_effort im_VectorSolver_effort se_VectorSolver_effort rfl rfl (s_VectorSolver_effort h) rfl rfl (Nat.le_of_ble_eq_true rfl) (fun _ hx => by cases hx) (fun v u q => ?_) (fun n u q => q)
  obtain ⟨r, rfl, h⟩ := xqi_get q
  refine xJ.isub (o_VectorSolver_searchFrom 5 rfl) ?_
  refine xJ.putI (o_VectorSolver_searchFrom 6 rfl) f_VectorSolver_49 rfl rfl rfl ?_
  replace h := h _ rfl
  refine xJ.aload_n (o_VectorSolver_searchFrom 7 rfl) rfl ?_
  refine xJ.aload_n (o_VectorSolver_searchFrom 8 rfl) rfl ?_
  refine xJ.getfield (o_VectorSolver_searchFrom 9 rfl) f_VectorSolver_19 rfl rfl ?_
  refine xJ.callV (Y' := Y_Book_size) (o_VectorSolver_searchFrom 10 rfl) m_VectorSolver_146 y_Book_size im_Book_size se_Book_size rfl rfl (s_Book_size h) rfl rfl (Nat.le_of_ble_eq_true rfl) (fun _ hx => by cases hx) (fun v u q => ?_) (fun n u q => q)
  obtain ⟨r, rfl, h⟩ := xqi_get q
  refine xJ.putI (o_VectorSolver_searchFrom 11 rfl) f_VectorSolver_129 rfl rfl rfl ?_
  replace h := h _ rfl
  refine xJ.aload_n (o_VectorSolver_searchFrom 12 rfl) rfl ?_
  refine xJ.aload_n (o_VectorSolver_searchFrom 13 rfl) rfl ?_
  refine xJ.getfield (o_VectorSolver_searchFrom 14 rfl) f_VectorSolver_19 rfl rfl ?_
  refine xJ.getfield (o_VectorSolver_searchFrom 15 rfl) f_VectorSolver_185 rfl rfl ?_
  refine xJ.putI (o_VectorSolver_searchFrom 16 rfl) f_VectorSolver_126 rfl rfl rfl ?_
  replace h := h _ rfl
  refine xJ.aload_n (o_VectorSolver_searchFrom 17 rfl) rfl ?_
  refine xJ.aload_n (o_VectorSolver_searchFrom 18 rfl) rfl ?_
  refine xJ.getfield (o_VectorSolver_searchFrom 19 rfl) f_VectorSolver_37 rfl rfl ?_
  refine xJ.iload_n (o_VectorSolver_searchFrom 20 rfl) rfl ?_
  refine xJ.aload_n (o_VectorSolver_searchFrom 21 rfl) rfl ?_
  refine xJ.getfield (o_VectorSolver_searchFrom 22 rfl) f_VectorSolver_129 rfl rfl ?_
  refine xJ.iload_n (o_VectorSolver_searchFrom 23 rfl) rfl ?_
  refine xJ.callV (Y' := Y_Search_least) (o_VectorSolver_searchFrom 24 rfl) m_VectorSolver_208 y_Search_least im_Search_least se_Search_least rfl rfl (s_Search_least h) rfl rfl (Nat.le_of_ble_eq_true rfl) (fun _ hx => by cases hx) (fun v u q => ?_) (fun n u q => q)
  obtain ⟨r, rfl, h⟩ := xqi_get q
  refine xJ.putI (o_VectorSolver_searchFrom 25 rfl) f_VectorSolver_53 rfl rfl rfl ?_
  replace h := h _ rfl
  refine xJ.aload_n (o_VectorSolver_searchFrom 26 rfl) rfl ?_
  refine xJ.getfield (o_VectorSolver_searchFrom 27 rfl) f_VectorSolver_53 rfl rfl ?_
  refine xJ.iconst (v := (-1)) (o_VectorSolver_searchFrom 28 rfl) (by decide) ?_
  refine xJ.icmp_eq (tgt := 69) (o_VectorSolver_searchFrom 29 rfl) (by decide) (fun z => ?_) (fun z => ?_)
  · replace h := h.1 z
    exact xJ.lvs (by exact ⟨rfl, trivial⟩) (sw_VectorSolver_searchFrom_69 h)
  · replace h := h.2 z
    refine xJ.aload_n (o_VectorSolver_searchFrom 30 rfl) rfl ?_
    refine xJ.aload_n (o_VectorSolver_searchFrom 31 rfl) rfl ?_
    refine xJ.iload_n (o_VectorSolver_searchFrom 32 rfl) rfl ?_
    refine xJ.callV (Y' := Y_VectorSolver_countFalse) (o_VectorSolver_searchFrom 33 rfl) m_VectorSolver_212 y_VectorSolver_countFalse im_VectorSolver_countFalse se_VectorSolver_countFalse rfl rfl (s_VectorSolver_countFalse h) rfl rfl (Nat.le_of_ble_eq_true rfl) (fun _ hx => by cases hx) (fun v u q => ?_) (fun n u q => q)
    obtain ⟨r, rfl, h⟩ := xqi_get q
    refine xJ.putI (o_VectorSolver_searchFrom 34 rfl) f_VectorSolver_159 rfl rfl rfl ?_
    replace h := h _ rfl
    exact xJ.lvs (by exact ⟨rfl, trivial⟩) (sw_VectorSolver_searchFrom_69 h)
def w_VectorSolver_askForSearch_23 (Q : xO → xS → Prop) (σ : xS) : Prop :=
  (1 ≤ xb σ ∧ Q (.inr 0) (xpb σ (xb σ - 1)))
def wp_VectorSolver_askForSearch (Q : xO → xS → Prop) (σ : xS)  : Prop :=
  wp_Book_size (xqi (fun r2 u1 => ((16 < r2 → w_VectorSolver_askForSearch_23 Q  u1) ∧ (¬ 16 < r2 → wp_VectorSolver_effort (xqi (fun r4 u3 => ((r4 ≤ (xi u3 0 5) → Q (.inl none) u3) ∧ (¬ r4 ≤ (xi u3 0 5) → w_VectorSolver_askForSearch_23 Q  u3))) (fun n u => Q (.inr n) u)) u1 ))) (fun n u => Q (.inr n) u)) σ 
set_option maxRecDepth 20000 in
theorem sw_VectorSolver_askForSearch_23 {γ : xG1} {d b0 : Nat} {Q : xO → xS → Prop} {σ : xS} (h : w_VectorSolver_askForSearch_23 Q  σ) : xJ (SHP, γ) Y_VectorSolver_askForSearch (d + 9) b0 23 [] [] σ Q := by
  exact xJ.throwNew (o_VectorSolver_askForSearch 10 rfl) (o_VectorSolver_askForSearch 11 rfl) (o_VectorSolver_askForSearch 12 rfl) (o_VectorSolver_askForSearch 13 rfl) (o_VectorSolver_askForSearch 14 rfl) e_VectorSolver_60_206_64 h.1 (by omega) (Nat.le_of_ble_eq_true rfl) (fun _ hx => by cases hx) h.2
set_option maxRecDepth 20000 in
theorem s_VectorSolver_askForSearch {γ : xG1} {d : Nat} {Q : xO → xS → Prop} {σ : xS}  (h : wp_VectorSolver_askForSearch Q σ ) : xM (SHP, γ) Y_VectorSolver_askForSearch (d + 9) [.ref 0] σ Q := by
  refine xM.of (by decide) (Nat.le_of_ble_eq_true rfl) ?_
  refine xJ.aload_n (o_VectorSolver_askForSearch 0 rfl) rfl ?_
  refine xJ.getfield (o_VectorSolver_askForSearch 1 rfl) f_VectorSolver_19 rfl rfl ?_
  refine xJ.callV (Y' := Y_Book_size) (o_VectorSolver_askForSearch 2 rfl) m_VectorSolver_146 y_Book_size im_Book_size se_Book_size rfl rfl (s_Book_size h) rfl rfl (Nat.le_of_ble_eq_true rfl) (fun _ hx => by cases hx) (fun v u q => ?_) (fun n u q => q)
  obtain ⟨r, rfl, h⟩ := xqi_get q
  refine xJ.bipush (v := 16) (o_VectorSolver_askForSearch 3 rfl) (by decide) ?_
  refine xJ.icmp_gt (tgt := 23) (o_VectorSolver_askForSearch 4 rfl) (by decide) (fun z => ?_) (fun z => ?_)
  · replace h := h.1 z
    exact xJ.lvs (by exact trivial) (sw_VectorSolver_askForSearch_23 h)
  · replace h := h.2 z
    refine xJ.aload_n (o_VectorSolver_askForSearch 5 rfl) rfl ?_
    refine xJ.callV (Y' := Y_VectorSolver_effort) (o_VectorSolver_askForSearch 6 rfl) m_VectorSolver_203 y_VectorSolver_effort im_VectorSolver_effort se_VectorSolver_effort rfl rfl (s_VectorSolver_effort h) rfl rfl (Nat.le_of_ble_eq_true rfl) (fun _ hx => by cases hx) (fun v u q => ?_) (fun n u q => q)
    obtain ⟨r, rfl, h⟩ := xqi_get q
    refine xJ.aload_n (o_VectorSolver_askForSearch 7 rfl) rfl ?_
    refine xJ.getfield (o_VectorSolver_askForSearch 8 rfl) f_VectorSolver_49 rfl rfl ?_
    refine xJ.icmp_le (tgt := 33) (o_VectorSolver_askForSearch 9 rfl) (by decide) (fun z => ?_) (fun z => ?_)
    · replace h := h.1 z
      exact xJ.return_ (o_VectorSolver_askForSearch 15 rfl) rfl h
    · replace h := h.2 z
      exact xJ.lvs (by exact trivial) (sw_VectorSolver_askForSearch_23 h)
def wp_VectorSolver_check (Q : xO → xS → Prop) (σ : xS)  : Prop :=
  wp_VectorSolver_askForSearch (xqv (fun u1 => wp_VectorSolver_searchFrom (xqi (fun r4 u3 => ((r4 = 0 ∨ r4 = 1) ∧ Q (.inl (some (.int r4))) u3)) (fun n u => Q (.inr n) u)) u1 0 (-1)) (fun n u => Q (.inr n) u)) σ 
set_option maxRecDepth 20000 in
theorem s_VectorSolver_check {γ : xG1} {d : Nat} {Q : xO → xS → Prop} {σ : xS}  (h : wp_VectorSolver_check Q σ ) : xM (SHP, γ) Y_VectorSolver_check (d + 10) [.ref 0] σ Q := by
  refine xM.of (by decide) (Nat.le_of_ble_eq_true rfl) ?_
  refine xJ.aload_n (o_VectorSolver_check 0 rfl) rfl ?_
  refine xJ.callV (Y' := Y_VectorSolver_askForSearch) (o_VectorSolver_check 1 rfl) m_VectorSolver_88 y_VectorSolver_askForSearch im_VectorSolver_askForSearch se_VectorSolver_askForSearch rfl rfl (s_VectorSolver_askForSearch h) rfl rfl (Nat.le_of_ble_eq_true rfl) (fun _ hx => by cases hx) (fun v u q => ?_) (fun n u q => q)
  obtain ⟨rfl, h⟩ := xqv_get q
  refine xJ.aload_n (o_VectorSolver_check 2 rfl) rfl ?_
  refine xJ.iconst (v := 0) (o_VectorSolver_check 3 rfl) (by decide) ?_
  refine xJ.iconst (v := (-1)) (o_VectorSolver_check 4 rfl) (by decide) ?_
  refine xJ.callV (Y' := Y_VectorSolver_searchFrom) (o_VectorSolver_check 5 rfl) m_VectorSolver_91 y_VectorSolver_searchFrom im_VectorSolver_searchFrom se_VectorSolver_searchFrom rfl rfl (s_VectorSolver_searchFrom h) rfl rfl (Nat.le_of_ble_eq_true rfl) (fun _ hx => by cases hx) (fun v u q => ?_) (fun n u q => q)
  obtain ⟨r, rfl, h⟩ := xqi_get q
  exact xJ.zreturn (o_VectorSolver_check 6 rfl) rfl h.1 h.2
def wp_VectorSolver_grownFound (Q : xO → xS → Prop) (σ : xS)  : Prop :=
  wp_Book_size (xqi (fun r2 u1 => Q (.inl (some (.int (jishl (xi σ 0 6) (r2 - (xi u1 0 7)))))) u1) (fun n u => Q (.inr n) u)) σ 
set_option maxRecDepth 20000 in
theorem s_VectorSolver_grownFound {γ : xG1} {d : Nat} {Q : xO → xS → Prop} {σ : xS}  (h : wp_VectorSolver_grownFound Q σ ) : xM (SHP, γ) Y_VectorSolver_grownFound (d + 1) [.ref 0] σ Q := by
  refine xM.of (by decide) (Nat.le_of_ble_eq_true rfl) ?_
  refine xJ.aload_n (o_VectorSolver_grownFound 0 rfl) rfl ?_
  refine xJ.getfield (o_VectorSolver_grownFound 1 rfl) f_VectorSolver_53 rfl rfl ?_
  refine xJ.aload_n (o_VectorSolver_grownFound 2 rfl) rfl ?_
  refine xJ.getfield (o_VectorSolver_grownFound 3 rfl) f_VectorSolver_19 rfl rfl ?_
  refine xJ.callV (Y' := Y_Book_size) (o_VectorSolver_grownFound 4 rfl) m_VectorSolver_146 y_Book_size im_Book_size se_Book_size rfl rfl (s_Book_size h) rfl rfl (Nat.le_of_ble_eq_true rfl) (fun _ hx => by cases hx) (fun v u q => ?_) (fun n u q => q)
  obtain ⟨r, rfl, h⟩ := xqi_get q
  refine xJ.aload_n (o_VectorSolver_grownFound 5 rfl) rfl ?_
  refine xJ.getfield (o_VectorSolver_grownFound 6 rfl) f_VectorSolver_129 rfl rfl ?_
  refine xJ.isub (o_VectorSolver_grownFound 7 rfl) ?_
  refine xJ.ishl (o_VectorSolver_grownFound 8 rfl) ?_
  exact xJ.ireturn (o_VectorSolver_grownFound 9 rfl) rfl h
def w_VectorSolver_more_23 (Q : xO → xS → Prop) (t1 : Int32) (σ : xS) : Prop :=
  wp_VectorSolver_searchFrom (xqi (fun r6 u5 => ((r6 = 0 ∨ r6 = 1) ∧ Q (.inl (some (.int r6))) u5)) (fun n u => Q (.inr n) u)) σ t1 (-1)
def wp_VectorSolver_more (Q : xO → xS → Prop) (σ : xS)  : Prop :=
  wp_VectorSolver_askForSearch (xqv (fun u1 => ((¬ (xi u1 0 6) = (-1) → wp_VectorSolver_grownFound (xqi (fun r4 u3 => w_VectorSolver_more_23 Q (r4 + 1) u3) (fun n u => Q (.inr n) u)) u1 ) ∧ ((xi u1 0 6) = (-1) → w_VectorSolver_more_23 Q 0 u1))) (fun n u => Q (.inr n) u)) σ 
set_option maxRecDepth 20000 in
theorem sw_VectorSolver_more_23 {γ : xG1} {d b0 : Nat} {Q : xO → xS → Prop} {t1 : Int32} {σ : xS} (h : w_VectorSolver_more_23 Q t1 σ) : xJ (SHP, γ) Y_VectorSolver_more (d + 10) b0 23 [] [.int t1, .ref 0] σ Q := by
  refine xJ.iconst (v := (-1)) (o_VectorSolver_more 13 rfl) (by decide) ?_
  refine xJ.callV (Y' := Y_VectorSolver_searchFrom) (o_VectorSolver_more 14 rfl) m_VectorSolver_91 y_VectorSolver_searchFrom im_VectorSolver_searchFrom se_VectorSolver_searchFrom rfl rfl (s_VectorSolver_searchFrom h) rfl rfl (Nat.le_of_ble_eq_true rfl) (fun _ hx => by cases hx) (fun v u q => ?_) (fun n u q => q)
  obtain ⟨r, rfl, h⟩ := xqi_get q
  exact xJ.zreturn (o_VectorSolver_more 15 rfl) rfl h.1 h.2
set_option maxRecDepth 20000 in
theorem s_VectorSolver_more {γ : xG1} {d : Nat} {Q : xO → xS → Prop} {σ : xS}  (h : wp_VectorSolver_more Q σ ) : xM (SHP, γ) Y_VectorSolver_more (d + 10) [.ref 0] σ Q := by
  refine xM.of (by decide) (Nat.le_of_ble_eq_true rfl) ?_
  refine xJ.aload_n (o_VectorSolver_more 0 rfl) rfl ?_
  refine xJ.callV (Y' := Y_VectorSolver_askForSearch) (o_VectorSolver_more 1 rfl) m_VectorSolver_88 y_VectorSolver_askForSearch im_VectorSolver_askForSearch se_VectorSolver_askForSearch rfl rfl (s_VectorSolver_askForSearch h) rfl rfl (Nat.le_of_ble_eq_true rfl) (fun _ hx => by cases hx) (fun v u q => ?_) (fun n u q => q)
  obtain ⟨rfl, h⟩ := xqv_get q
  refine xJ.aload_n (o_VectorSolver_more 2 rfl) rfl ?_
  refine xJ.aload_n (o_VectorSolver_more 3 rfl) rfl ?_
  refine xJ.getfield (o_VectorSolver_more 4 rfl) f_VectorSolver_53 rfl rfl ?_
  refine xJ.iconst (v := (-1)) (o_VectorSolver_more 5 rfl) (by decide) ?_
  refine xJ.icmp_ne (tgt := 17) (o_VectorSolver_more 6 rfl) (by decide) (fun z => ?_) (fun z => ?_)
  · replace h := h.1 z
    refine xJ.aload_n (o_VectorSolver_more 9 rfl) rfl ?_
    refine xJ.callV (Y' := Y_VectorSolver_grownFound) (o_VectorSolver_more 10 rfl) m_VectorSolver_95 y_VectorSolver_grownFound im_VectorSolver_grownFound se_VectorSolver_grownFound rfl rfl (s_VectorSolver_grownFound h) rfl rfl (Nat.le_of_ble_eq_true rfl) (fun _ hx => by cases hx) (fun v u q => ?_) (fun n u q => q)
    obtain ⟨r, rfl, h⟩ := xqi_get q
    refine xJ.iconst (v := 1) (o_VectorSolver_more 11 rfl) (by decide) ?_
    refine xJ.iadd (o_VectorSolver_more 12 rfl) ?_
    exact xJ.lvs (by exact trivial) (sw_VectorSolver_more_23 h)
  · replace h := h.2 z
    refine xJ.iconst (v := 0) (o_VectorSolver_more 7 rfl) (by decide) ?_
    refine xJ.goto (tgt := 23) (o_VectorSolver_more 8 rfl) (by decide) ?_
    exact xJ.lvs (by exact trivial) (sw_VectorSolver_more_23 h)
def w_VectorSolver_termOfName_15 (Q : xO → xS → Prop) (σ : xS) : Prop :=
  (1 ≤ xb σ ∧ Q (.inr 1) (xpb σ (xb σ - 1)))
def wp_VectorSolver_termOfName (Q : xO → xS → Prop) (σ : xS) (a1 : Int32) : Prop :=
  ((a1 < 0 → w_VectorSolver_termOfName_15 Q  σ) ∧ (¬ a1 < 0 → ((a1 < (xi σ 5 4) → (vp_in a1 500 ∧ Q (.inl (some (.int (xi σ 18 a1.toNatClampNeg)))) σ)) ∧ (¬ a1 < (xi σ 5 4) → w_VectorSolver_termOfName_15 Q  σ))))
set_option maxRecDepth 20000 in
theorem sw_VectorSolver_termOfName_15 {γ : xG1} {d b0 : Nat} {Q : xO → xS → Prop} {σ : xS} (h : w_VectorSolver_termOfName_15 Q  σ) : xJ (SHP, γ) Y_VectorSolver_termOfName (d + 9) b0 15 [] [] σ Q := by
  exact xJ.throwNew (o_VectorSolver_termOfName 7 rfl) (o_VectorSolver_termOfName 8 rfl) (o_VectorSolver_termOfName 9 rfl) (o_VectorSolver_termOfName 10 rfl) (o_VectorSolver_termOfName 11 rfl) e_VectorSolver_71_193_75 h.1 (by omega) (Nat.le_of_ble_eq_true rfl) (fun _ hx => by cases hx) h.2
set_option maxRecDepth 20000 in
theorem s_VectorSolver_termOfName {γ : xG1} {d : Nat} {Q : xO → xS → Prop} {σ : xS} {a1 : Int32} (h : wp_VectorSolver_termOfName Q σ a1) : xM (SHP, γ) Y_VectorSolver_termOfName (d + 9) [.ref 0, .int a1] σ Q := by
  refine xM.of (by decide) (Nat.le_of_ble_eq_true rfl) ?_
  refine xJ.iload_n (o_VectorSolver_termOfName 0 rfl) rfl ?_
  refine xJ.if_lt (tgt := 15) (o_VectorSolver_termOfName 1 rfl) (by decide) (fun z => ?_) (fun z => ?_)
  · replace h := h.1 z
    exact xJ.lvs (by exact trivial) (sw_VectorSolver_termOfName_15 h)
  · replace h := h.2 z
    refine xJ.iload_n (o_VectorSolver_termOfName 2 rfl) rfl ?_
    refine xJ.aload_n (o_VectorSolver_termOfName 3 rfl) rfl ?_
    refine xJ.getfield (o_VectorSolver_termOfName 4 rfl) f_VectorSolver_19 rfl rfl ?_
    refine xJ.getfield (o_VectorSolver_termOfName 5 rfl) f_VectorSolver_179 rfl rfl ?_
    refine xJ.icmp_lt (tgt := 25) (o_VectorSolver_termOfName 6 rfl) (by decide) (fun z => ?_) (fun z => ?_)
    · replace h := h.1 z
      refine xJ.aload_n (o_VectorSolver_termOfName 12 rfl) rfl ?_
      refine xJ.getfield (o_VectorSolver_termOfName 13 rfl) f_VectorSolver_19 rfl rfl ?_
      refine xJ.getfield (o_VectorSolver_termOfName 14 rfl) f_VectorSolver_195 rfl rfl ?_
      refine xJ.iload_n (o_VectorSolver_termOfName 15 rfl) rfl ?_
      refine xJ.iaload (o_VectorSolver_termOfName 16 rfl) rfl h.1 ?_
      replace h := h.2
      exact xJ.ireturn (o_VectorSolver_termOfName 17 rfl) rfl h
    · replace h := h.2 z
      exact xJ.lvs (by exact trivial) (sw_VectorSolver_termOfName_15 h)
def wp_VectorSolver_suppose (Q : xO → xS → Prop) (σ : xS) (a1 : Int32) : Prop :=
  wp_VectorSolver_termOfName (xqi (fun r2 u1 => (vp_in r2 2000 ∧ (((xi u1 8 r2.toNatClampNeg) = 0 → wp_VectorSolver_askForSearch (xqv (fun u3 => wp_VectorSolver_searchFrom (xqi (fun r6 u5 => ((r6 = 0 ∨ r6 = 1) ∧ Q (.inl (some (.int r6))) u5)) (fun n u => Q (.inr n) u)) u3 0 r2) (fun n u => Q (.inr n) u)) u1 ) ∧ (¬ (xi u1 8 r2.toNatClampNeg) = 0 → (1 ≤ xb u1 ∧ Q (.inr 1) (xpb u1 (xb u1 - 1))))))) (fun n u => Q (.inr n) u)) σ a1
set_option maxRecDepth 20000 in
theorem s_VectorSolver_suppose {γ : xG1} {d : Nat} {Q : xO → xS → Prop} {σ : xS} {a1 : Int32} (h : wp_VectorSolver_suppose Q σ a1) : xM (SHP, γ) Y_VectorSolver_suppose (d + 10) [.ref 0, .int a1] σ Q := by
  refine xM.of (by decide) (Nat.le_of_ble_eq_true rfl) ?_
  refine xJ.aload_n (o_VectorSolver_suppose 0 rfl) rfl ?_
  refine xJ.iload_n (o_VectorSolver_suppose 1 rfl) rfl ?_
  refine xJ.callV (Y' := Y_VectorSolver_termOfName) (o_VectorSolver_suppose 2 rfl) m_VectorSolver_98 y_VectorSolver_termOfName im_VectorSolver_termOfName se_VectorSolver_termOfName rfl rfl (s_VectorSolver_termOfName h) rfl rfl (Nat.le_of_ble_eq_true rfl) (fun _ hx => by cases hx) (fun v u q => ?_) (fun n u q => q)
  obtain ⟨r, rfl, h⟩ := xqi_get q
  refine xJ.istore_n (o_VectorSolver_suppose 3 rfl) (by decide) ?_
  refine xJ.aload_n (o_VectorSolver_suppose 4 rfl) rfl ?_
  refine xJ.getfield (o_VectorSolver_suppose 5 rfl) f_VectorSolver_19 rfl rfl ?_
  refine xJ.getfield (o_VectorSolver_suppose 6 rfl) f_VectorSolver_102 rfl rfl ?_
  refine xJ.getfield (o_VectorSolver_suppose 7 rfl) f_VectorSolver_106 rfl rfl ?_
  refine xJ.iload_n (o_VectorSolver_suppose 8 rfl) rfl ?_
  refine xJ.iaload (o_VectorSolver_suppose 9 rfl) rfl h.1 ?_
  replace h := h.2
  refine xJ.if_eq (tgt := 31) (o_VectorSolver_suppose 10 rfl) (by decide) (fun z => ?_) (fun z => ?_)
  · replace h := h.1 z
    refine xJ.aload_n (o_VectorSolver_suppose 16 rfl) rfl ?_
    refine xJ.callV (Y' := Y_VectorSolver_askForSearch) (o_VectorSolver_suppose 17 rfl) m_VectorSolver_88 y_VectorSolver_askForSearch im_VectorSolver_askForSearch se_VectorSolver_askForSearch rfl rfl (s_VectorSolver_askForSearch h) rfl rfl (Nat.le_of_ble_eq_true rfl) (fun _ hx => by cases hx) (fun v u q => ?_) (fun n u q => q)
    obtain ⟨rfl, h⟩ := xqv_get q
    refine xJ.aload_n (o_VectorSolver_suppose 18 rfl) rfl ?_
    refine xJ.iconst (v := 0) (o_VectorSolver_suppose 19 rfl) (by decide) ?_
    refine xJ.iload_n (o_VectorSolver_suppose 20 rfl) rfl ?_
    refine xJ.callV (Y' := Y_VectorSolver_searchFrom) (o_VectorSolver_suppose 21 rfl) m_VectorSolver_91 y_VectorSolver_searchFrom im_VectorSolver_searchFrom se_VectorSolver_searchFrom rfl rfl (s_VectorSolver_searchFrom h) rfl rfl (Nat.le_of_ble_eq_true rfl) (fun _ hx => by cases hx) (fun v u q => ?_) (fun n u q => q)
    obtain ⟨r, rfl, h⟩ := xqi_get q
    exact xJ.zreturn (o_VectorSolver_suppose 22 rfl) rfl h.1 h.2
  · replace h := h.2 z
    exact xJ.throwNew (o_VectorSolver_suppose 11 rfl) (o_VectorSolver_suppose 12 rfl) (o_VectorSolver_suppose 13 rfl) (o_VectorSolver_suppose 14 rfl) (o_VectorSolver_suppose 15 rfl) e_VectorSolver_71_112_75 h.1 (by omega) (Nat.le_of_ble_eq_true rfl) (fun _ hx => by cases hx) h.2
def w_VectorSolver_sortOfThing_15 (Q : xO → xS → Prop) (σ : xS) : Prop :=
  (1 ≤ xb σ ∧ Q (.inr 1) (xpb σ (xb σ - 1)))
def wp_VectorSolver_sortOfThing (Q : xO → xS → Prop) (σ : xS) (a1 : Int32) : Prop :=
  ((a1 < 0 → w_VectorSolver_sortOfThing_15 Q  σ) ∧ (¬ a1 < 0 → ((a1 < (xi σ 5 8) → (vp_in a1 500 ∧ (vp_in (xi σ 19 a1.toNatClampNeg) 2000 ∧ Q (.inl (some (.int (xi σ 8 (xi σ 19 a1.toNatClampNeg).toNatClampNeg)))) σ))) ∧ (¬ a1 < (xi σ 5 8) → w_VectorSolver_sortOfThing_15 Q  σ))))
set_option maxRecDepth 20000 in
theorem sw_VectorSolver_sortOfThing_15 {γ : xG1} {d b0 : Nat} {Q : xO → xS → Prop} {σ : xS} (h : w_VectorSolver_sortOfThing_15 Q  σ) : xJ (SHP, γ) Y_VectorSolver_sortOfThing (d + 9) b0 15 [] [] σ Q := by
  exact xJ.throwNew (o_VectorSolver_sortOfThing 7 rfl) (o_VectorSolver_sortOfThing 8 rfl) (o_VectorSolver_sortOfThing 9 rfl) (o_VectorSolver_sortOfThing 10 rfl) (o_VectorSolver_sortOfThing 11 rfl) e_VectorSolver_71_198_75 h.1 (by omega) (Nat.le_of_ble_eq_true rfl) (fun _ hx => by cases hx) h.2
set_option maxRecDepth 20000 in
theorem s_VectorSolver_sortOfThing {γ : xG1} {d : Nat} {Q : xO → xS → Prop} {σ : xS} {a1 : Int32} (h : wp_VectorSolver_sortOfThing Q σ a1) : xM (SHP, γ) Y_VectorSolver_sortOfThing (d + 9) [.ref 0, .int a1] σ Q := by
  refine xM.of (by decide) (Nat.le_of_ble_eq_true rfl) ?_
  refine xJ.iload_n (o_VectorSolver_sortOfThing 0 rfl) rfl ?_
  refine xJ.if_lt (tgt := 15) (o_VectorSolver_sortOfThing 1 rfl) (by decide) (fun z => ?_) (fun z => ?_)
  · replace h := h.1 z
    exact xJ.lvs (by exact trivial) (sw_VectorSolver_sortOfThing_15 h)
  · replace h := h.2 z
    refine xJ.iload_n (o_VectorSolver_sortOfThing 2 rfl) rfl ?_
    refine xJ.aload_n (o_VectorSolver_sortOfThing 3 rfl) rfl ?_
    refine xJ.getfield (o_VectorSolver_sortOfThing 4 rfl) f_VectorSolver_19 rfl rfl ?_
    refine xJ.getfield (o_VectorSolver_sortOfThing 5 rfl) f_VectorSolver_185 rfl rfl ?_
    refine xJ.icmp_lt (tgt := 25) (o_VectorSolver_sortOfThing 6 rfl) (by decide) (fun z => ?_) (fun z => ?_)
    · replace h := h.1 z
      refine xJ.aload_n (o_VectorSolver_sortOfThing 12 rfl) rfl ?_
      refine xJ.getfield (o_VectorSolver_sortOfThing 13 rfl) f_VectorSolver_19 rfl rfl ?_
      refine xJ.getfield (o_VectorSolver_sortOfThing 14 rfl) f_VectorSolver_102 rfl rfl ?_
      refine xJ.getfield (o_VectorSolver_sortOfThing 15 rfl) f_VectorSolver_106 rfl rfl ?_
      refine xJ.aload_n (o_VectorSolver_sortOfThing 16 rfl) rfl ?_
      refine xJ.getfield (o_VectorSolver_sortOfThing 17 rfl) f_VectorSolver_19 rfl rfl ?_
      refine xJ.getfield (o_VectorSolver_sortOfThing 18 rfl) f_VectorSolver_200 rfl rfl ?_
      refine xJ.iload_n (o_VectorSolver_sortOfThing 19 rfl) rfl ?_
      refine xJ.iaload (o_VectorSolver_sortOfThing 20 rfl) rfl h.1 ?_
      replace h := h.2
      refine xJ.iaload (o_VectorSolver_sortOfThing 21 rfl) rfl h.1 ?_
      replace h := h.2
      exact xJ.ireturn (o_VectorSolver_sortOfThing 22 rfl) rfl h
    · replace h := h.2 z
      exact xJ.lvs (by exact trivial) (sw_VectorSolver_sortOfThing_15 h)
def w_VectorSolver_value_18 (Q : xO → xS → Prop) (σ : xS) : Prop :=
  (1 ≤ xb σ ∧ Q (.inr 1) (xpb σ (xb σ - 1)))
def wp_VectorSolver_value (Q : xO → xS → Prop) (σ : xS) (a1 : Int32) (a2 : Int32) : Prop :=
  wp_VectorSolver_sortOfThing (xqi (fun r2 u1 => ((a2 < 0 → w_VectorSolver_value_18 Q  u1) ∧ (¬ a2 < 0 → wp_Sorts_cells (xqi (fun r4 u3 => ((a2 < r4 → ((¬ (xi u3 0 6) = (-1) → ((a1 < (xi u3 0 8) → wp_Book_shift (xqi (fun r6 u5 => (∀ x7 : Int64, x7 = (jiushr (xi u3 0 6) r6).toInt64 → wp_Sorts_cell (xql (fun r9 u8 => Q (.inl (some (.long r9))) u8) (fun n u => Q (.inr n) u)) u5 r2 x7 a2.toInt64)) (fun n u => Q (.inr n) u)) u3 a1 (xi u3 0 7)) ∧ (¬ a1 < (xi u3 0 8) → Q (.inl (some (.long 0))) u3))) ∧ ((xi u3 0 6) = (-1) → (1 ≤ xb u3 ∧ Q (.inr 0) (xpb u3 (xb u3 - 1)))))) ∧ (¬ a2 < r4 → w_VectorSolver_value_18 Q  u3))) (fun n u => Q (.inr n) u)) u1 r2))) (fun n u => Q (.inr n) u)) σ a1
set_option maxRecDepth 20000 in
theorem sw_VectorSolver_value_18 {γ : xG1} {d b0 : Nat} {Q : xO → xS → Prop} {σ : xS} (h : w_VectorSolver_value_18 Q  σ) : xJ (SHP, γ) Y_VectorSolver_value (d + 10) b0 18 [] [] σ Q := by
  exact xJ.throwNew (o_VectorSolver_value 10 rfl) (o_VectorSolver_value 11 rfl) (o_VectorSolver_value 12 rfl) (o_VectorSolver_value 13 rfl) (o_VectorSolver_value 14 rfl) e_VectorSolver_71_122_75 h.1 (by omega) (Nat.le_of_ble_eq_true rfl) (fun _ hx => by cases hx) h.2
set_option maxRecDepth 20000 in
theorem s_VectorSolver_value {γ : xG1} {d : Nat} {Q : xO → xS → Prop} {σ : xS} {a1 : Int32} {a2 : Int32} (h : wp_VectorSolver_value Q σ a1 a2) : xM (SHP, γ) Y_VectorSolver_value (d + 10) [.ref 0, .int a1, .int a2] σ Q := by
  refine xM.of (by decide) (Nat.le_of_ble_eq_true rfl) ?_
  refine xJ.aload_n (o_VectorSolver_value 0 rfl) rfl ?_
  refine xJ.iload_n (o_VectorSolver_value 1 rfl) rfl ?_
  refine xJ.callV (Y' := Y_VectorSolver_sortOfThing) (o_VectorSolver_value 2 rfl) m_VectorSolver_114 y_VectorSolver_sortOfThing im_VectorSolver_sortOfThing se_VectorSolver_sortOfThing rfl rfl (s_VectorSolver_sortOfThing h) rfl rfl (Nat.le_of_ble_eq_true rfl) (fun _ hx => by cases hx) (fun v u q => ?_) (fun n u q => q)
  obtain ⟨r, rfl, h⟩ := xqi_get q
  refine xJ.istore_n (o_VectorSolver_value 3 rfl) (by decide) ?_
  refine xJ.iload_n (o_VectorSolver_value 4 rfl) rfl ?_
  refine xJ.if_lt (tgt := 18) (o_VectorSolver_value 5 rfl) (by decide) (fun z => ?_) (fun z => ?_)
  · replace h := h.1 z
    exact xJ.lvs (by exact trivial) (sw_VectorSolver_value_18 h)
  · replace h := h.2 z
    refine xJ.iload_n (o_VectorSolver_value 6 rfl) rfl ?_
    refine xJ.iload_n (o_VectorSolver_value 7 rfl) rfl ?_
    refine xJ.callS (Y' := Y_Sorts_cells) (o_VectorSolver_value 8 rfl) m_VectorSolver_117 y_Sorts_cells st_Sorts_cells (s_Sorts_cells h) rfl rfl (Nat.le_of_ble_eq_true rfl) (fun _ hx => by cases hx) (fun v u q => ?_) (fun n u q => q)
    obtain ⟨r, rfl, h⟩ := xqi_get q
    refine xJ.icmp_lt (tgt := 28) (o_VectorSolver_value 9 rfl) (by decide) (fun z => ?_) (fun z => ?_)
    · replace h := h.1 z
      refine xJ.aload_n (o_VectorSolver_value 15 rfl) rfl ?_
      refine xJ.getfield (o_VectorSolver_value 16 rfl) f_VectorSolver_53 rfl rfl ?_
      refine xJ.iconst (v := (-1)) (o_VectorSolver_value 17 rfl) (by decide) ?_
      refine xJ.icmp_ne (tgt := 46) (o_VectorSolver_value 18 rfl) (by decide) (fun z => ?_) (fun z => ?_)
      · replace h := h.1 z
        refine xJ.iload_n (o_VectorSolver_value 24 rfl) rfl ?_
        refine xJ.aload_n (o_VectorSolver_value 25 rfl) rfl ?_
        refine xJ.getfield (o_VectorSolver_value 26 rfl) f_VectorSolver_126 rfl rfl ?_
        refine xJ.icmp_lt (tgt := 56) (o_VectorSolver_value 27 rfl) (by decide) (fun z => ?_) (fun z => ?_)
        · replace h := h.1 z
          refine xJ.aload_n (o_VectorSolver_value 30 rfl) rfl ?_
          refine xJ.getfield (o_VectorSolver_value 31 rfl) f_VectorSolver_53 rfl rfl ?_
          refine xJ.aload_n (o_VectorSolver_value 32 rfl) rfl ?_
          refine xJ.getfield (o_VectorSolver_value 33 rfl) f_VectorSolver_19 rfl rfl ?_
          refine xJ.iload_n (o_VectorSolver_value 34 rfl) rfl ?_
          refine xJ.aload_n (o_VectorSolver_value 35 rfl) rfl ?_
          refine xJ.getfield (o_VectorSolver_value 36 rfl) f_VectorSolver_129 rfl rfl ?_
          refine xJ.callV (Y' := Y_Book_shift) (o_VectorSolver_value 37 rfl) m_VectorSolver_132 y_Book_shift im_Book_shift se_Book_shift rfl rfl (s_Book_shift h) rfl rfl (Nat.le_of_ble_eq_true rfl) (fun _ hx => by cases hx) (fun v u q => ?_) (fun n u q => q)
          obtain ⟨r, rfl, h⟩ := xqi_get q
          refine xJ.iushr (o_VectorSolver_value 38 rfl) rfl ?_
          refine xJ.i2l (o_VectorSolver_value 39 rfl) rfl ?_
          refine xJ.lstore (o_VectorSolver_value 40 rfl) (by decide) ?_
          replace h := h _ rfl
          refine xJ.iload_n (o_VectorSolver_value 41 rfl) rfl ?_
          refine xJ.lload (o_VectorSolver_value 42 rfl) rfl ?_
          refine xJ.iload_n (o_VectorSolver_value 43 rfl) rfl ?_
          refine xJ.i2l (o_VectorSolver_value 44 rfl) rfl ?_
          refine xJ.callS (Y' := Y_Sorts_cell) (o_VectorSolver_value 45 rfl) m_VectorSolver_136 y_Sorts_cell st_Sorts_cell (s_Sorts_cell h) rfl rfl (Nat.le_of_ble_eq_true rfl) (fun _ hx => by cases hx) (fun v u q => ?_) (fun n u q => q)
          obtain ⟨r, rfl, h⟩ := xql_get q
          exact xJ.lreturn (o_VectorSolver_value 46 rfl) rfl h
        · replace h := h.2 z
          refine xJ.lconst (v := 0) (o_VectorSolver_value 28 rfl) (by decide) ?_
          exact xJ.lreturn (o_VectorSolver_value 29 rfl) rfl h
      · replace h := h.2 z
        exact xJ.throwNew (o_VectorSolver_value 19 rfl) (o_VectorSolver_value 20 rfl) (o_VectorSolver_value 21 rfl) (o_VectorSolver_value 22 rfl) (o_VectorSolver_value 23 rfl) e_VectorSolver_60_124_64 h.1 (by omega) (Nat.le_of_ble_eq_true rfl) (fun _ hx => by cases hx) h.2
    · replace h := h.2 z
      exact xJ.lvs (by exact trivial) (sw_VectorSolver_value_18 h)
def w_VectorSolver_named_54 (Q : xO → xS → Prop) (σ : xS) : Prop :=
  (1 ≤ xb σ ∧ Q (.inr 0) (xpb σ (xb σ - 1)))
def wp_VectorSolver_named (Q : xO → xS → Prop) (σ : xS) (a1 : Int32) : Prop :=
  wp_VectorSolver_termOfName (xqi (fun r2 u1 => (vp_in r2 2000 ∧ wp_Sorts_isArray (xqi (fun r4 u3 => ((r4 = 0 → (((xi u3 0 6) = (-1) → w_VectorSolver_named_54 Q  u3) ∧ (¬ (xi u3 0 6) = (-1) → wp_Book_size (xqi (fun r6 u5 => ((r6 ≤ 16 → wp_VectorSolver_grownFound (xqi (fun r8 u7 => wp_Book_size (xqi (fun r10 u9 => wp_Evaluator_evaluate_48 (xqv (fun u11 => (vp_in r2 2000 ∧ Q (.inl (some (.long (xl u11 49 r2.toNatClampNeg)))) u11)) (fun n u => Q (.inr n) u)) u9 r8 r10 r2) (fun n u => Q (.inr n) u)) u7 ) (fun n u => Q (.inr n) u)) u5 ) ∧ (¬ r6 ≤ 16 → w_VectorSolver_named_54 Q  u5))) (fun n u => Q (.inr n) u)) u3 ))) ∧ (¬ r4 = 0 → (1 ≤ xb u3 ∧ Q (.inr 1) (xpb u3 (xb u3 - 1)))))) (fun n u => Q (.inr n) u)) u1 (xi u1 8 r2.toNatClampNeg))) (fun n u => Q (.inr n) u)) σ a1
set_option maxRecDepth 20000 in
theorem sw_VectorSolver_named_54 {γ : xG1} {d b0 : Nat} {Q : xO → xS → Prop} {σ : xS} (h : w_VectorSolver_named_54 Q  σ) : xJ (SHP, γ) Y_VectorSolver_named (d + 10) b0 54 [] [] σ Q := by
  exact xJ.throwNew (o_VectorSolver_named 26 rfl) (o_VectorSolver_named 27 rfl) (o_VectorSolver_named 28 rfl) (o_VectorSolver_named 29 rfl) (o_VectorSolver_named 30 rfl) e_VectorSolver_60_149_64 h.1 (by omega) (Nat.le_of_ble_eq_true rfl) (fun _ hx => by cases hx) h.2
set_option maxRecDepth 20000 in
theorem s_VectorSolver_named {γ : xG1} {d : Nat} {Q : xO → xS → Prop} {σ : xS} {a1 : Int32} (h : wp_VectorSolver_named Q σ a1) : xM (SHP, γ) Y_VectorSolver_named (d + 10) [.ref 0, .int a1] σ Q := by
  refine xM.of (by decide) (Nat.le_of_ble_eq_true rfl) ?_
  refine xJ.aload_n (o_VectorSolver_named 0 rfl) rfl ?_
  refine xJ.iload_n (o_VectorSolver_named 1 rfl) rfl ?_
  refine xJ.callV (Y' := Y_VectorSolver_termOfName) (o_VectorSolver_named 2 rfl) m_VectorSolver_98 y_VectorSolver_termOfName im_VectorSolver_termOfName se_VectorSolver_termOfName rfl rfl (s_VectorSolver_termOfName h) rfl rfl (Nat.le_of_ble_eq_true rfl) (fun _ hx => by cases hx) (fun v u q => ?_) (fun n u q => q)
  obtain ⟨r, rfl, h⟩ := xqi_get q
  refine xJ.istore_n (o_VectorSolver_named 3 rfl) (by decide) ?_
  refine xJ.aload_n (o_VectorSolver_named 4 rfl) rfl ?_
  refine xJ.getfield (o_VectorSolver_named 5 rfl) f_VectorSolver_19 rfl rfl ?_
  refine xJ.getfield (o_VectorSolver_named 6 rfl) f_VectorSolver_102 rfl rfl ?_
  refine xJ.getfield (o_VectorSolver_named 7 rfl) f_VectorSolver_106 rfl rfl ?_
  refine xJ.iload_n (o_VectorSolver_named 8 rfl) rfl ?_
  refine xJ.iaload (o_VectorSolver_named 9 rfl) rfl h.1 ?_
  replace h := h.2
  refine xJ.callS (Y' := Y_Sorts_isArray) (o_VectorSolver_named 10 rfl) m_VectorSolver_140 y_Sorts_isArray st_Sorts_isArray (s_Sorts_isArray h) rfl rfl (Nat.le_of_ble_eq_true rfl) (fun _ hx => by cases hx) (fun v u q => ?_) (fun n u q => q)
  obtain ⟨r, rfl, h⟩ := xqi_get q
  refine xJ.if_eq (tgt := 34) (o_VectorSolver_named 11 rfl) (by decide) (fun z => ?_) (fun z => ?_)
  · replace h := h.1 z
    refine xJ.aload_n (o_VectorSolver_named 17 rfl) rfl ?_
    refine xJ.getfield (o_VectorSolver_named 18 rfl) f_VectorSolver_53 rfl rfl ?_
    refine xJ.iconst (v := (-1)) (o_VectorSolver_named 19 rfl) (by decide) ?_
    refine xJ.icmp_eq (tgt := 54) (o_VectorSolver_named 20 rfl) (by decide) (fun z => ?_) (fun z => ?_)
    · replace h := h.1 z
      exact xJ.lvs (by exact trivial) (sw_VectorSolver_named_54 h)
    · replace h := h.2 z
      refine xJ.aload_n (o_VectorSolver_named 21 rfl) rfl ?_
      refine xJ.getfield (o_VectorSolver_named 22 rfl) f_VectorSolver_19 rfl rfl ?_
      refine xJ.callV (Y' := Y_Book_size) (o_VectorSolver_named 23 rfl) m_VectorSolver_146 y_Book_size im_Book_size se_Book_size rfl rfl (s_Book_size h) rfl rfl (Nat.le_of_ble_eq_true rfl) (fun _ hx => by cases hx) (fun v u q => ?_) (fun n u q => q)
      obtain ⟨r, rfl, h⟩ := xqi_get q
      refine xJ.bipush (v := 16) (o_VectorSolver_named 24 rfl) (by decide) ?_
      refine xJ.icmp_le (tgt := 64) (o_VectorSolver_named 25 rfl) (by decide) (fun z => ?_) (fun z => ?_)
      · replace h := h.1 z
        refine xJ.aload_n (o_VectorSolver_named 31 rfl) rfl ?_
        refine xJ.getfield (o_VectorSolver_named 32 rfl) f_VectorSolver_44 rfl rfl ?_
        refine xJ.aload_n (o_VectorSolver_named 33 rfl) rfl ?_
        refine xJ.callV (Y' := Y_VectorSolver_grownFound) (o_VectorSolver_named 34 rfl) m_VectorSolver_95 y_VectorSolver_grownFound im_VectorSolver_grownFound se_VectorSolver_grownFound rfl rfl (s_VectorSolver_grownFound h) rfl rfl (Nat.le_of_ble_eq_true rfl) (fun _ hx => by cases hx) (fun v u q => ?_) (fun n u q => q)
        obtain ⟨r, rfl, h⟩ := xqi_get q
        refine xJ.aload_n (o_VectorSolver_named 35 rfl) rfl ?_
        refine xJ.getfield (o_VectorSolver_named 36 rfl) f_VectorSolver_19 rfl rfl ?_
        refine xJ.callV (Y' := Y_Book_size) (o_VectorSolver_named 37 rfl) m_VectorSolver_146 y_Book_size im_Book_size se_Book_size rfl rfl (s_Book_size h) rfl rfl (Nat.le_of_ble_eq_true rfl) (fun _ hx => by cases hx) (fun v u q => ?_) (fun n u q => q)
        obtain ⟨r, rfl, h⟩ := xqi_get q
        refine xJ.iload_n (o_VectorSolver_named 38 rfl) rfl ?_
        refine xJ.callV (Y' := Y_Evaluator_evaluate) (o_VectorSolver_named 39 rfl) m_VectorSolver_151 y_Evaluator_evaluate im_Evaluator_evaluate se_Evaluator_evaluate rfl rfl (s_Evaluator_evaluate_48 h) rfl rfl (Nat.le_of_ble_eq_true rfl) (fun _ hx => by cases hx) (fun v u q => ?_) (fun n u q => q)
        obtain ⟨rfl, h⟩ := xqv_get q
        refine xJ.aload_n (o_VectorSolver_named 40 rfl) rfl ?_
        refine xJ.getfield (o_VectorSolver_named 41 rfl) f_VectorSolver_44 rfl rfl ?_
        refine xJ.getfield (o_VectorSolver_named 42 rfl) f_VectorSolver_155 rfl rfl ?_
        refine xJ.iload_n (o_VectorSolver_named 43 rfl) rfl ?_
        refine xJ.laload (o_VectorSolver_named 44 rfl) rfl h.1 ?_
        replace h := h.2
        exact xJ.lreturn (o_VectorSolver_named 45 rfl) rfl h
      · replace h := h.2 z
        exact xJ.lvs (by exact trivial) (sw_VectorSolver_named_54 h)
  · replace h := h.2 z
    exact xJ.throwNew (o_VectorSolver_named 12 rfl) (o_VectorSolver_named 13 rfl) (o_VectorSolver_named 14 rfl) (o_VectorSolver_named 15 rfl) (o_VectorSolver_named 16 rfl) e_VectorSolver_71_144_75 h.1 (by omega) (Nat.le_of_ble_eq_true rfl) (fun _ hx => by cases hx) h.2
def wp_VectorSolver_missed (Q : xO → xS → Prop) (σ : xS)  : Prop :=
  ((¬ (xi σ 0 6) = (-1) → Q (.inl (some (.int (xi σ 0 9)))) σ) ∧ ((xi σ 0 6) = (-1) → Q (.inl (some (.int 0))) σ))
set_option maxRecDepth 20000 in
theorem s_VectorSolver_missed {γ : xG1} {d : Nat} {Q : xO → xS → Prop} {σ : xS}  (h : wp_VectorSolver_missed Q σ ) : xM (SHP, γ) Y_VectorSolver_missed (d + 0) [.ref 0] σ Q := by
  refine xM.of (by decide) (Nat.le_of_ble_eq_true rfl) ?_
  refine xJ.aload_n (o_VectorSolver_missed 0 rfl) rfl ?_
  refine xJ.getfield (o_VectorSolver_missed 1 rfl) f_VectorSolver_53 rfl rfl ?_
  refine xJ.iconst (v := (-1)) (o_VectorSolver_missed 2 rfl) (by decide) ?_
  refine xJ.icmp_ne (tgt := 12) (o_VectorSolver_missed 3 rfl) (by decide) (fun z => ?_) (fun z => ?_)
  · replace h := h.1 z
    refine xJ.aload_n (o_VectorSolver_missed 6 rfl) rfl ?_
    refine xJ.getfield (o_VectorSolver_missed 7 rfl) f_VectorSolver_159 rfl rfl ?_
    exact xJ.ireturn (o_VectorSolver_missed 8 rfl) rfl h
  · replace h := h.2 z
    refine xJ.iconst (v := 0) (o_VectorSolver_missed 4 rfl) (by decide) ?_
    refine xJ.goto (tgt := 16) (o_VectorSolver_missed 5 rfl) (by decide) ?_
    exact xJ.ireturn (o_VectorSolver_missed 8 rfl) rfl h
def wp_VectorSolver_refused (Q : xO → xS → Prop) (σ : xS)  : Prop :=
  Q (.inl (some (.int (xi σ 30 17)))) σ
set_option maxRecDepth 20000 in
theorem s_VectorSolver_refused {γ : xG1} {d : Nat} {Q : xO → xS → Prop} {σ : xS}  (h : wp_VectorSolver_refused Q σ ) : xM (SHP, γ) Y_VectorSolver_refused (d + 0) [.ref 0] σ Q := by
  refine xM.of (by decide) (Nat.le_of_ble_eq_true rfl) ?_
  refine xJ.aload_n (o_VectorSolver_refused 0 rfl) rfl ?_
  refine xJ.getfield (o_VectorSolver_refused 1 rfl) f_VectorSolver_37 rfl rfl ?_
  refine xJ.getfield (o_VectorSolver_refused 2 rfl) f_VectorSolver_162 rfl rfl ?_
  exact xJ.ireturn (o_VectorSolver_refused 3 rfl) rfl h
theorem sc_VectorSolver_thing_7 {x : Int32} {P : Nat → Prop} (k0 : x = 0 → P 36) (k1 : x = 1 → P 57) (k2 : x = 2 → P 62) (k3 : x = 3 → P 67) (kd : ¬ x = 0 ∧ ¬ x = 1 ∧ ¬ x = 2 ∧ ¬ x = 3 → P 77) : ∃ t : Nat, xdst 7 70 0 3 #[29, 50, 55, 60] x = (t : Int) ∧ P t := by
  by_cases h0_0 : x = 0
  · subst h0_0; exact ⟨36, by decide, k0 (rfl)⟩
  by_cases h1_0 : x = 1
  · subst h1_0; exact ⟨57, by decide, k1 (rfl)⟩
  by_cases h2_0 : x = 2
  · subst h2_0; exact ⟨62, by decide, k2 (rfl)⟩
  by_cases h3_0 : x = 3
  · subst h3_0; exact ⟨67, by decide, k3 (rfl)⟩
  have nh0_0 := lv_neT h0_0 (show (0 : Int32).toInt = 0 by decide)
  have nh1_0 := lv_neT h1_0 (show (1 : Int32).toInt = 1 by decide)
  have nh2_0 := lv_neT h2_0 (show (2 : Int32).toInt = 2 by decide)
  have nh3_0 := lv_neT h3_0 (show (3 : Int32).toInt = 3 by decide)
  refine ⟨77, ?_, kd ⟨h0_0, h1_0, h2_0, h3_0⟩⟩
  exact xdst_out (by omega) rfl
def wp_VectorSolver_thing (Q : xO → xS → Prop) (σ : xS) (a1 : Int32) (a2 : Int32) : Prop :=
  wp_VectorSolver_sortOfThing (xqi (fun r2 u1 => ((a2 = 0 → ((¬ r2 = 0 → wp_Sorts_isArray (xqi (fun r4 u3 => ((r4 = 0 → Q (.inl (some (.int 1))) u3) ∧ (¬ r4 = 0 → Q (.inl (some (.int 2))) u3))) (fun n u => Q (.inr n) u)) u1 r2) ∧ (r2 = 0 → Q (.inl (some (.int 0))) u1))) ∧ (a2 = 1 → wp_Sorts_width (xqi (fun r6 u5 => Q (.inl (some (.int r6))) u5) (fun n u => Q (.inr n) u)) u1 r2) ∧ (a2 = 2 → wp_Sorts_indexWidth (xqi (fun r8 u7 => Q (.inl (some (.int r8))) u7) (fun n u => Q (.inr n) u)) u1 r2) ∧ (a2 = 3 → (vp_in a1 500 ∧ Q (.inl (some (.int (xi u1 20 a1.toNatClampNeg)))) u1)) ∧ (¬ a2 = 0 ∧ ¬ a2 = 1 ∧ ¬ a2 = 2 ∧ ¬ a2 = 3 → (1 ≤ xb u1 ∧ Q (.inr 1) (xpb u1 (xb u1 - 1)))))) (fun n u => Q (.inr n) u)) σ a1
set_option maxRecDepth 20000 in
theorem s_VectorSolver_thing {γ : xG1} {d : Nat} {Q : xO → xS → Prop} {σ : xS} {a1 : Int32} {a2 : Int32} (h : wp_VectorSolver_thing Q σ a1 a2) : xM (SHP, γ) Y_VectorSolver_thing (d + 10) [.ref 0, .int a1, .int a2] σ Q := by
  refine xM.of (by decide) (Nat.le_of_ble_eq_true rfl) ?_
  refine xJ.aload_n (o_VectorSolver_thing 0 rfl) rfl ?_
  refine xJ.iload_n (o_VectorSolver_thing 1 rfl) rfl ?_
  refine xJ.callV (Y' := Y_VectorSolver_sortOfThing) (o_VectorSolver_thing 2 rfl) m_VectorSolver_114 y_VectorSolver_sortOfThing im_VectorSolver_sortOfThing se_VectorSolver_sortOfThing rfl rfl (s_VectorSolver_sortOfThing h) rfl rfl (Nat.le_of_ble_eq_true rfl) (fun _ hx => by cases hx) (fun v u q => ?_) (fun n u q => q)
  obtain ⟨r, rfl, h⟩ := xqi_get q
  refine xJ.istore_n (o_VectorSolver_thing 3 rfl) (by decide) ?_
  refine xJ.iload_n (o_VectorSolver_thing 4 rfl) rfl ?_
  refine xJ.tsw (o_VectorSolver_thing 5 rfl) (by decide) (sc_VectorSolver_thing_7 (fun z => ?_) (fun z => ?_) (fun z => ?_) (fun z => ?_) (fun z => ?_))
  · replace h := h.1 z
    refine xJ.iload_n (o_VectorSolver_thing 6 rfl) rfl ?_
    refine xJ.if_ne (tgt := 44) (o_VectorSolver_thing 7 rfl) (by decide) (fun z => ?_) (fun z => ?_)
    · replace h := h.1 z
      refine xJ.iload_n (o_VectorSolver_thing 10 rfl) rfl ?_
      refine xJ.callS (Y' := Y_Sorts_isArray) (o_VectorSolver_thing 11 rfl) m_VectorSolver_140 y_Sorts_isArray st_Sorts_isArray (s_Sorts_isArray h) rfl rfl (Nat.le_of_ble_eq_true rfl) (fun _ hx => by cases hx) (fun v u q => ?_) (fun n u q => q)
      obtain ⟨r, rfl, h⟩ := xqi_get q
      refine xJ.if_eq (tgt := 55) (o_VectorSolver_thing 12 rfl) (by decide) (fun z => ?_) (fun z => ?_)
      · replace h := h.1 z
        refine xJ.iconst (v := 1) (o_VectorSolver_thing 15 rfl) (by decide) ?_
        exact xJ.ireturn (o_VectorSolver_thing 16 rfl) rfl h
      · replace h := h.2 z
        refine xJ.iconst (v := 2) (o_VectorSolver_thing 13 rfl) (by decide) ?_
        refine xJ.goto (tgt := 56) (o_VectorSolver_thing 14 rfl) (by decide) ?_
        exact xJ.ireturn (o_VectorSolver_thing 16 rfl) rfl h
    · replace h := h.2 z
      refine xJ.iconst (v := 0) (o_VectorSolver_thing 8 rfl) (by decide) ?_
      refine xJ.goto (tgt := 56) (o_VectorSolver_thing 9 rfl) (by decide) ?_
      exact xJ.ireturn (o_VectorSolver_thing 16 rfl) rfl h
  · replace h := h.2.1 z
    refine xJ.iload_n (o_VectorSolver_thing 17 rfl) rfl ?_
    refine xJ.callS (Y' := Y_Sorts_width) (o_VectorSolver_thing 18 rfl) m_VectorSolver_165 y_Sorts_width st_Sorts_width (s_Sorts_width h) rfl rfl (Nat.le_of_ble_eq_true rfl) (fun _ hx => by cases hx) (fun v u q => ?_) (fun n u q => q)
    obtain ⟨r, rfl, h⟩ := xqi_get q
    exact xJ.ireturn (o_VectorSolver_thing 19 rfl) rfl h
  · replace h := h.2.2.1 z
    refine xJ.iload_n (o_VectorSolver_thing 20 rfl) rfl ?_
    refine xJ.callS (Y' := Y_Sorts_indexWidth) (o_VectorSolver_thing 21 rfl) m_VectorSolver_168 y_Sorts_indexWidth st_Sorts_indexWidth (s_Sorts_indexWidth h) rfl rfl (Nat.le_of_ble_eq_true rfl) (fun _ hx => by cases hx) (fun v u q => ?_) (fun n u q => q)
    obtain ⟨r, rfl, h⟩ := xqi_get q
    exact xJ.ireturn (o_VectorSolver_thing 22 rfl) rfl h
  · replace h := h.2.2.2.1 z
    refine xJ.aload_n (o_VectorSolver_thing 23 rfl) rfl ?_
    refine xJ.getfield (o_VectorSolver_thing 24 rfl) f_VectorSolver_19 rfl rfl ?_
    refine xJ.getfield (o_VectorSolver_thing 25 rfl) f_VectorSolver_171 rfl rfl ?_
    refine xJ.iload_n (o_VectorSolver_thing 26 rfl) rfl ?_
    refine xJ.iaload (o_VectorSolver_thing 27 rfl) rfl h.1 ?_
    replace h := h.2
    exact xJ.ireturn (o_VectorSolver_thing 28 rfl) rfl h
  · replace h := h.2.2.2.2 z
    exact xJ.throwNew (o_VectorSolver_thing 29 rfl) (o_VectorSolver_thing 30 rfl) (o_VectorSolver_thing 31 rfl) (o_VectorSolver_thing 32 rfl) (o_VectorSolver_thing 33 rfl) e_VectorSolver_71_174_75 h.1 (by omega) (Nat.le_of_ble_eq_true rfl) (fun _ hx => by cases hx) h.2
theorem sc_VectorSolver_count_1 {x : Int32} {P : Nat → Prop} (k0 : x = 0 → P 44) (k1 : x = 1 → P 55) (k2 : x = 2 → P 63) (k3 : x = 3 → P 71) (k4 : x = 4 → P 79) (k5 : x = 5 → P 87) (k6 : x = 6 → P 95) (kd : ¬ x = 0 ∧ ¬ x = 1 ∧ ¬ x = 2 ∧ ¬ x = 3 ∧ ¬ x = 4 ∧ ¬ x = 5 ∧ ¬ x = 6 → P 106) : ∃ t : Nat, xdst 1 105 0 6 #[43, 54, 62, 70, 78, 86, 94] x = (t : Int) ∧ P t := by
  by_cases h0_0 : x = 0
  · subst h0_0; exact ⟨44, by decide, k0 (rfl)⟩
  by_cases h1_0 : x = 1
  · subst h1_0; exact ⟨55, by decide, k1 (rfl)⟩
  by_cases h2_0 : x = 2
  · subst h2_0; exact ⟨63, by decide, k2 (rfl)⟩
  by_cases h3_0 : x = 3
  · subst h3_0; exact ⟨71, by decide, k3 (rfl)⟩
  by_cases h4_0 : x = 4
  · subst h4_0; exact ⟨79, by decide, k4 (rfl)⟩
  by_cases h5_0 : x = 5
  · subst h5_0; exact ⟨87, by decide, k5 (rfl)⟩
  by_cases h6_0 : x = 6
  · subst h6_0; exact ⟨95, by decide, k6 (rfl)⟩
  have nh0_0 := lv_neT h0_0 (show (0 : Int32).toInt = 0 by decide)
  have nh1_0 := lv_neT h1_0 (show (1 : Int32).toInt = 1 by decide)
  have nh2_0 := lv_neT h2_0 (show (2 : Int32).toInt = 2 by decide)
  have nh3_0 := lv_neT h3_0 (show (3 : Int32).toInt = 3 by decide)
  have nh4_0 := lv_neT h4_0 (show (4 : Int32).toInt = 4 by decide)
  have nh5_0 := lv_neT h5_0 (show (5 : Int32).toInt = 5 by decide)
  have nh6_0 := lv_neT h6_0 (show (6 : Int32).toInt = 6 by decide)
  refine ⟨106, ?_, kd ⟨h0_0, h1_0, h2_0, h3_0, h4_0, h5_0, h6_0⟩⟩
  exact xdst_out (by omega) rfl
def wp_VectorSolver_count (Q : xO → xS → Prop) (σ : xS) (a1 : Int32) : Prop :=
  ((a1 = 0 → Q (.inl (some (.int (xi σ 6 9)))) σ) ∧ (a1 = 1 → Q (.inl (some (.int (xi σ 5 4)))) σ) ∧ (a1 = 2 → Q (.inl (some (.int (xi σ 5 10)))) σ) ∧ (a1 = 3 → Q (.inl (some (.int (xi σ 1 1)))) σ) ∧ (a1 = 4 → Q (.inl (some (.int (xi σ 5 8)))) σ) ∧ (a1 = 5 → wp_Book_size (xqi (fun r2 u1 => Q (.inl (some (.int r2))) u1) (fun n u => Q (.inr n) u)) σ ) ∧ (a1 = 6 → Q (.inl (some (.int (xi σ 6 10)))) σ) ∧ (¬ a1 = 0 ∧ ¬ a1 = 1 ∧ ¬ a1 = 2 ∧ ¬ a1 = 3 ∧ ¬ a1 = 4 ∧ ¬ a1 = 5 ∧ ¬ a1 = 6 → (1 ≤ xb σ ∧ Q (.inr 1) (xpb σ (xb σ - 1)))))
set_option maxRecDepth 20000 in
theorem s_VectorSolver_count {γ : xG1} {d : Nat} {Q : xO → xS → Prop} {σ : xS} {a1 : Int32} (h : wp_VectorSolver_count Q σ a1) : xM (SHP, γ) Y_VectorSolver_count (d + 9) [.ref 0, .int a1] σ Q := by
  refine xM.of (by decide) (Nat.le_of_ble_eq_true rfl) ?_
  refine xJ.iload_n (o_VectorSolver_count 0 rfl) rfl ?_
  refine xJ.tsw (o_VectorSolver_count 1 rfl) (by decide) (sc_VectorSolver_count_1 (fun z => ?_) (fun z => ?_) (fun z => ?_) (fun z => ?_) (fun z => ?_) (fun z => ?_) (fun z => ?_) (fun z => ?_))
  · replace h := h.1 z
    refine xJ.aload_n (o_VectorSolver_count 2 rfl) rfl ?_
    refine xJ.getfield (o_VectorSolver_count 3 rfl) f_VectorSolver_19 rfl rfl ?_
    refine xJ.getfield (o_VectorSolver_count 4 rfl) f_VectorSolver_102 rfl rfl ?_
    refine xJ.getfield (o_VectorSolver_count 5 rfl) f_VectorSolver_176 rfl rfl ?_
    exact xJ.ireturn (o_VectorSolver_count 6 rfl) rfl h
  · replace h := h.2.1 z
    refine xJ.aload_n (o_VectorSolver_count 7 rfl) rfl ?_
    refine xJ.getfield (o_VectorSolver_count 8 rfl) f_VectorSolver_19 rfl rfl ?_
    refine xJ.getfield (o_VectorSolver_count 9 rfl) f_VectorSolver_179 rfl rfl ?_
    exact xJ.ireturn (o_VectorSolver_count 10 rfl) rfl h
  · replace h := h.2.2.1 z
    refine xJ.aload_n (o_VectorSolver_count 11 rfl) rfl ?_
    refine xJ.getfield (o_VectorSolver_count 12 rfl) f_VectorSolver_19 rfl rfl ?_
    refine xJ.getfield (o_VectorSolver_count 13 rfl) f_VectorSolver_182 rfl rfl ?_
    exact xJ.ireturn (o_VectorSolver_count 14 rfl) rfl h
  · replace h := h.2.2.2.1 z
    refine xJ.aload_n (o_VectorSolver_count 15 rfl) rfl ?_
    refine xJ.getfield (o_VectorSolver_count 16 rfl) f_VectorSolver_10 rfl rfl ?_
    refine xJ.getfield (o_VectorSolver_count 17 rfl) f_VectorSolver_56 rfl rfl ?_
    exact xJ.ireturn (o_VectorSolver_count 18 rfl) rfl h
  · replace h := h.2.2.2.2.1 z
    refine xJ.aload_n (o_VectorSolver_count 19 rfl) rfl ?_
    refine xJ.getfield (o_VectorSolver_count 20 rfl) f_VectorSolver_19 rfl rfl ?_
    refine xJ.getfield (o_VectorSolver_count 21 rfl) f_VectorSolver_185 rfl rfl ?_
    exact xJ.ireturn (o_VectorSolver_count 22 rfl) rfl h
  · replace h := h.2.2.2.2.2.1 z
    refine xJ.aload_n (o_VectorSolver_count 23 rfl) rfl ?_
    refine xJ.getfield (o_VectorSolver_count 24 rfl) f_VectorSolver_19 rfl rfl ?_
    refine xJ.callV (Y' := Y_Book_size) (o_VectorSolver_count 25 rfl) m_VectorSolver_146 y_Book_size im_Book_size se_Book_size rfl rfl (s_Book_size h) rfl rfl (Nat.le_of_ble_eq_true rfl) (fun _ hx => by cases hx) (fun v u q => ?_) (fun n u q => q)
    obtain ⟨r, rfl, h⟩ := xqi_get q
    exact xJ.ireturn (o_VectorSolver_count 26 rfl) rfl h
  · replace h := h.2.2.2.2.2.2.1 z
    refine xJ.aload_n (o_VectorSolver_count 27 rfl) rfl ?_
    refine xJ.getfield (o_VectorSolver_count 28 rfl) f_VectorSolver_19 rfl rfl ?_
    refine xJ.getfield (o_VectorSolver_count 29 rfl) f_VectorSolver_102 rfl rfl ?_
    refine xJ.getfield (o_VectorSolver_count 30 rfl) f_VectorSolver_188 rfl rfl ?_
    exact xJ.ireturn (o_VectorSolver_count 31 rfl) rfl h
  · replace h := h.2.2.2.2.2.2.2 z
    exact xJ.throwNew (o_VectorSolver_count 32 rfl) (o_VectorSolver_count 33 rfl) (o_VectorSolver_count 34 rfl) (o_VectorSolver_count 35 rfl) (o_VectorSolver_count 36 rfl) e_VectorSolver_71_191_75 h.1 (by omega) (Nat.le_of_ble_eq_true rfl) (fun _ hx => by cases hx) h.2
