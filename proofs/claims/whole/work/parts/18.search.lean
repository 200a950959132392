def wp_Search_join (Q : xO → xS → Prop) (σ : xS) (a1 : Int32) (a2 : Int32) (a3 : Int32) : Prop :=
  (∀ x1 : Int32, x1 = (jishl 1 a1) → (vp_in a1 16 ∧ (∀ x2 : Int32, x2 = ((a3 ||| (xi σ 38 a1.toNatClampNeg)) &&& (x1 ^^^ (-1))) → (vp_in a1 16 ∧ (vp_in a1 16 ∧ wp_Checker_followsBoth (xqi (fun r4 u3 => ((r4 = 0 → (∀ s5 : xS, s5 = xpi u3 30 17 ((xi u3 30 17) + 1) → Q (.inl (some (.int ((xi s5 30 16) &&& (((2 * x1) - 1) ^^^ (-1)))))) s5)) ∧ (¬ r4 = 0 → Q (.inl (some (.int x2))) u3))) (fun n u => Q (.inr n) u)) σ x1 a3 (a2 &&& a3) (xi σ 38 a1.toNatClampNeg) (xi σ 39 a1.toNatClampNeg) x2)))))
set_option maxRecDepth 20000 in
theorem s_Search_join {γ : xG1} {d : Nat} {Q : xO → xS → Prop} {σ : xS} {a1 : Int32} {a2 : Int32} {a3 : Int32} (h : wp_Search_join Q σ a1 a2 a3) : xM (SHP, γ) Y_Search_join (d + 1) [.ref 30, .int a1, .int a2, .int a3] σ Q := by
  refine xM.of (by decide) (Nat.le_of_ble_eq_true rfl) ?_
  refine xJ.iconst (v := 1) (o_Search_join 0 rfl) (by decide) ?_
  refine xJ.iload_n (o_Search_join 1 rfl) rfl ?_
  refine xJ.ishl (o_Search_join 2 rfl) ?_
  refine xJ.istore (o_Search_join 3 rfl) (by decide) ?_
  replace h := h _ rfl
  refine xJ.iload_n (o_Search_join 4 rfl) rfl ?_
  refine xJ.aload_n (o_Search_join 5 rfl) rfl ?_
  refine xJ.getfield (o_Search_join 6 rfl) f_Search_34 rfl rfl ?_
  refine xJ.iload_n (o_Search_join 7 rfl) rfl ?_
  refine xJ.iaload (o_Search_join 8 rfl) rfl h.1 ?_
  replace h := h.2
  refine xJ.ior (o_Search_join 9 rfl) ?_
  refine xJ.iload (o_Search_join 10 rfl) rfl ?_
  refine xJ.iconst (v := (-1)) (o_Search_join 11 rfl) (by decide) ?_
  refine xJ.ixor (o_Search_join 12 rfl) ?_
  refine xJ.iand (o_Search_join 13 rfl) ?_
  refine xJ.istore (o_Search_join 14 rfl) (by decide) ?_
  replace h := h _ rfl
  refine xJ.aload_n (o_Search_join 15 rfl) rfl ?_
  refine xJ.getfield (o_Search_join 16 rfl) f_Search_76 rfl rfl ?_
  refine xJ.iload (o_Search_join 17 rfl) rfl ?_
  refine xJ.iload_n (o_Search_join 18 rfl) rfl ?_
  refine xJ.iload_n (o_Search_join 19 rfl) rfl ?_
  refine xJ.iload_n (o_Search_join 20 rfl) rfl ?_
  refine xJ.iand (o_Search_join 21 rfl) ?_
  refine xJ.aload_n (o_Search_join 22 rfl) rfl ?_
  refine xJ.getfield (o_Search_join 23 rfl) f_Search_34 rfl rfl ?_
  refine xJ.iload_n (o_Search_join 24 rfl) rfl ?_
  refine xJ.iaload (o_Search_join 25 rfl) rfl h.1 ?_
  replace h := h.2
  refine xJ.aload_n (o_Search_join 26 rfl) rfl ?_
  refine xJ.getfield (o_Search_join 27 rfl) f_Search_37 rfl rfl ?_
  refine xJ.iload_n (o_Search_join 28 rfl) rfl ?_
  refine xJ.iaload (o_Search_join 29 rfl) rfl h.1 ?_
  replace h := h.2
  refine xJ.iload (o_Search_join 30 rfl) rfl ?_
  refine xJ.callV (Y' := Y_Checker_followsBoth) (o_Search_join 31 rfl) m_Search_179 y_Checker_followsBoth im_Checker_followsBoth se_Checker_followsBoth rfl rfl (s_Checker_followsBoth h) rfl rfl (Nat.le_of_ble_eq_true rfl) (fun _ hx => by cases hx) (fun v u q => ?_) (fun n u q => q)
  obtain ⟨r, rfl, h⟩ := xqi_get q
  refine xJ.if_eq (tgt := 53) (o_Search_join 32 rfl) (by decide) (fun z => ?_) (fun z => ?_)
  · replace h := h.1 z
    refine xJ.aload_n (o_Search_join 35 rfl) rfl ?_
    refine xJ.dup (o_Search_join 36 rfl) rfl ?_
    refine xJ.getfield (o_Search_join 37 rfl) f_Search_112 rfl rfl ?_
    refine xJ.iconst (v := 1) (o_Search_join 38 rfl) (by decide) ?_
    refine xJ.iadd (o_Search_join 39 rfl) ?_
    refine xJ.putI (o_Search_join 40 rfl) f_Search_112 rfl rfl rfl ?_
    replace h := h _ rfl
    refine xJ.aload_n (o_Search_join 41 rfl) rfl ?_
    refine xJ.getfield (o_Search_join 42 rfl) f_Search_84 rfl rfl ?_
    refine xJ.iconst (v := 2) (o_Search_join 43 rfl) (by decide) ?_
    refine xJ.iload (o_Search_join 44 rfl) rfl ?_
    refine xJ.imul (o_Search_join 45 rfl) ?_
    refine xJ.iconst (v := 1) (o_Search_join 46 rfl) (by decide) ?_
    refine xJ.isub (o_Search_join 47 rfl) ?_
    refine xJ.iconst (v := (-1)) (o_Search_join 48 rfl) (by decide) ?_
    refine xJ.ixor (o_Search_join 49 rfl) ?_
    refine xJ.iand (o_Search_join 50 rfl) ?_
    exact xJ.ireturn (o_Search_join 51 rfl) rfl h
  · replace h := h.2 z
    refine xJ.iload (o_Search_join 33 rfl) rfl ?_
    exact xJ.ireturn (o_Search_join 34 rfl) rfl h
def w_Search_nextAfter_61 (Q : xO → xS → Prop) (K5 : Int32 → Int32 → Int32 → xS → Prop) (a1 : Int32) (a3 : Int32) (a4 : Int32) (a5 : Int32) (σ : xS) : Prop :=
  (((a3 &&& a5) = 0 → (∀ x2 : Int32, x2 = a4 + 1 → K5 a1 a3 x2 σ)) ∧ (¬ (a3 &&& a5) = 0 → wp_Search_join (xqi (fun r4 u3 => (∀ x5 : Int32, x5 = a4 + 1 → K5 a1 r4 x5 u3)) (fun n u => Q (.inr n) u)) σ a4 a1 a3))
def w_Search_nextAfter_5 (Q : xO → xS → Prop) : Nat → Int32 → Int32 → Int32 → xS → Prop
  | 0 => fun _ _ _ _ => False
  | n + 1 => fun a1 a3 a4 σ =>
    (((xi σ 30 15) ≤ a4 → Q (.inl (some (.int (-1)))) σ) ∧ (¬ (xi σ 30 15) ≤ a4 → (∀ x1 : Int32, x1 = (jishl 1 a4) → (((a3 &&& x1) = 0 → w_Search_nextAfter_61 Q (w_Search_nextAfter_5 Q n) a1 a3 a4 x1 σ) ∧ (¬ (a3 &&& x1) = 0 → ((¬ (a1 &&& x1) = 0 → w_Search_nextAfter_61 Q (w_Search_nextAfter_5 Q n) a1 a3 a4 x1 σ) ∧ ((a1 &&& x1) = 0 → (vp_in a4 16 ∧ (∀ s6 : xS, s6 = xpi σ 38 a4.toNatClampNeg a3 → (vp_in a4 16 ∧ (∀ s7 : xS, s7 = xpi s6 39 a4.toNatClampNeg (a1 &&& a3) → Q (.inl (some (.int ((a1 ||| x1) &&& (-x1))))) s7)))))))))))
def wp_Search_nextAfter (Q : xO → xS → Prop) (σ : xS) (a1 : Int32) (a2 : Int32) : Prop :=
  ∃ m, w_Search_nextAfter_5 Q m a1 a2 0 σ
set_option maxRecDepth 20000 in
theorem sw_Search_nextAfter_61 {γ : xG1} {d b0 : Nat} {Q : xO → xS → Prop} {K5 : Int32 → Int32 → Int32 → xS → Prop} (hK5 : ∀ a1 a3 a4 σ, K5 a1 a3 a4 σ → xJ (SHP, γ) Y_Search_nextAfter (d + 2) b0 5 [(0, .ref 30), (1, .int a1), (3, .int a3), (4, .int a4)] [] σ Q) {a1 : Int32} {a3 : Int32} {a4 : Int32} {a5 : Int32} {σ : xS} (h : w_Search_nextAfter_61 Q K5 a1 a3 a4 a5 σ) : xJ (SHP, γ) Y_Search_nextAfter (d + 2) b0 61 [(0, .ref 30), (1, .int a1), (3, .int a3), (4, .int a4), (5, .int a5)] [] σ Q := by
  refine xJ.iload_n (o_Search_nextAfter 39 rfl) rfl ?_
  refine xJ.iload (o_Search_nextAfter 40 rfl) rfl ?_
  refine xJ.iand (o_Search_nextAfter 41 rfl) ?_
  refine xJ.if_eq (tgt := 77) (o_Search_nextAfter 42 rfl) (by decide) (fun z => ?_) (fun z => ?_)
  · replace h := h.1 z
    refine xJ.iincC (w := 1) (o_Search_nextAfter 49 rfl) rfl (by decide) (by decide) ?_
    replace h := h _ rfl
    refine xJ.goto (tgt := 5) (o_Search_nextAfter 50 rfl) (by decide) ?_
    exact xJ.lvs (by exact ⟨rfl, rfl, rfl, rfl, trivial⟩) (hK5 _ _ _ _ h)
  · replace h := h.2 z
    refine xJ.aload_n (o_Search_nextAfter 43 rfl) rfl ?_
    refine xJ.iload (o_Search_nextAfter 44 rfl) rfl ?_
    refine xJ.iload_n (o_Search_nextAfter 45 rfl) rfl ?_
    refine xJ.iload_n (o_Search_nextAfter 46 rfl) rfl ?_
    refine xJ.callV (Y' := Y_Search_join) (o_Search_nextAfter 47 rfl) m_Search_175 y_Search_join im_Search_join se_Search_join rfl rfl (s_Search_join h) rfl rfl (Nat.le_of_ble_eq_true rfl) (fun _ hx => by cases hx) (fun v u q => ?_) (fun n u q => q)
    obtain ⟨r, rfl, h⟩ := xqi_get q
    refine xJ.istore_n (o_Search_nextAfter 48 rfl) (by decide) ?_
    refine xJ.iincC (w := 1) (o_Search_nextAfter 49 rfl) rfl (by decide) (by decide) ?_
    replace h := h _ rfl
    refine xJ.goto (tgt := 5) (o_Search_nextAfter 50 rfl) (by decide) ?_
    exact xJ.lvs (by exact ⟨rfl, rfl, rfl, rfl, trivial⟩) (hK5 _ _ _ _ h)
set_option maxRecDepth 20000 in
theorem sw_Search_nextAfter_5 {γ : xG1} {d b0 : Nat} {Q : xO → xS → Prop} : ∀ (n : Nat) (a1 : Int32) (a3 : Int32) (a4 : Int32) (σ : xS), w_Search_nextAfter_5 Q n a1 a3 a4 σ → xJ (SHP, γ) Y_Search_nextAfter (d + 2) b0 5 [(0, .ref 30), (1, .int a1), (3, .int a3), (4, .int a4)] [] σ Q := by
  intro n
  induction n with
  | zero => intro a1 a3 a4 σ h; exact h.elim
  | succ n ih =>
    intro a1 a3 a4 σ h
    refine xJ.iload (o_Search_nextAfter 4 rfl) rfl ?_
    refine xJ.aload_n (o_Search_nextAfter 5 rfl) rfl ?_
    refine xJ.getfield (o_Search_nextAfter 6 rfl) f_Search_80 rfl rfl ?_
    refine xJ.icmp_ge (tgt := 83) (o_Search_nextAfter 7 rfl) (by decide) (fun z => ?_) (fun z => ?_)
    · replace h := h.1 z
      refine xJ.iconst (v := (-1)) (o_Search_nextAfter 51 rfl) (by decide) ?_
      exact xJ.ireturn (o_Search_nextAfter 52 rfl) rfl h
    · replace h := h.2 z
      refine xJ.iconst (v := 1) (o_Search_nextAfter 8 rfl) (by decide) ?_
      refine xJ.iload (o_Search_nextAfter 9 rfl) rfl ?_
      refine xJ.ishl (o_Search_nextAfter 10 rfl) ?_
      refine xJ.istore (o_Search_nextAfter 11 rfl) (by decide) ?_
      replace h := h _ rfl
      refine xJ.iload_n (o_Search_nextAfter 12 rfl) rfl ?_
      refine xJ.iload (o_Search_nextAfter 13 rfl) rfl ?_
      refine xJ.iand (o_Search_nextAfter 14 rfl) ?_
      refine xJ.if_eq (tgt := 61) (o_Search_nextAfter 15 rfl) (by decide) (fun z => ?_) (fun z => ?_)
      · replace h := h.1 z
        exact xJ.lvs (by exact ⟨rfl, rfl, rfl, rfl, rfl, trivial⟩) (sw_Search_nextAfter_61 ih h)
      · replace h := h.2 z
        refine xJ.iload_n (o_Search_nextAfter 16 rfl) rfl ?_
        refine xJ.iload (o_Search_nextAfter 17 rfl) rfl ?_
        refine xJ.iand (o_Search_nextAfter 18 rfl) ?_
        refine xJ.if_ne (tgt := 61) (o_Search_nextAfter 19 rfl) (by decide) (fun z => ?_) (fun z => ?_)
        · replace h := h.1 z
          exact xJ.lvs (by exact ⟨rfl, rfl, rfl, rfl, rfl, trivial⟩) (sw_Search_nextAfter_61 ih h)
        · replace h := h.2 z
          refine xJ.aload_n (o_Search_nextAfter 20 rfl) rfl ?_
          refine xJ.getfield (o_Search_nextAfter 21 rfl) f_Search_34 rfl rfl ?_
          refine xJ.iload (o_Search_nextAfter 22 rfl) rfl ?_
          refine xJ.iload_n (o_Search_nextAfter 23 rfl) rfl ?_
          refine xJ.iastore (o_Search_nextAfter 24 rfl) rfl h.1 ?_
          replace h := h.2
          replace h := h _ rfl
          refine xJ.aload_n (o_Search_nextAfter 25 rfl) rfl ?_
          refine xJ.getfield (o_Search_nextAfter 26 rfl) f_Search_37 rfl rfl ?_
          refine xJ.iload (o_Search_nextAfter 27 rfl) rfl ?_
          refine xJ.iload_n (o_Search_nextAfter 28 rfl) rfl ?_
          refine xJ.iload_n (o_Search_nextAfter 29 rfl) rfl ?_
          refine xJ.iand (o_Search_nextAfter 30 rfl) ?_
          refine xJ.iastore (o_Search_nextAfter 31 rfl) rfl h.1 ?_
          replace h := h.2
          replace h := h _ rfl
          refine xJ.iload_n (o_Search_nextAfter 32 rfl) rfl ?_
          refine xJ.iload (o_Search_nextAfter 33 rfl) rfl ?_
          refine xJ.ior (o_Search_nextAfter 34 rfl) ?_
          refine xJ.iload (o_Search_nextAfter 35 rfl) rfl ?_
          refine xJ.ineg (o_Search_nextAfter 36 rfl) ?_
          refine xJ.iand (o_Search_nextAfter 37 rfl) ?_
          exact xJ.ireturn (o_Search_nextAfter 38 rfl) rfl h
set_option maxRecDepth 20000 in
theorem s_Search_nextAfter {γ : xG1} {d : Nat} {Q : xO → xS → Prop} {σ : xS} {a1 : Int32} {a2 : Int32} (h : wp_Search_nextAfter Q σ a1 a2) : xM (SHP, γ) Y_Search_nextAfter (d + 2) [.ref 30, .int a1, .int a2] σ Q := by
  refine xM.of (by decide) (Nat.le_of_ble_eq_true rfl) ?_
  refine xJ.iload_n (o_Search_nextAfter 0 rfl) rfl ?_
  refine xJ.istore_n (o_Search_nextAfter 1 rfl) (by decide) ?_
  refine xJ.iconst (v := 0) (o_Search_nextAfter 2 rfl) (by decide) ?_
  refine xJ.istore (o_Search_nextAfter 3 rfl) (by decide) ?_
  obtain ⟨m, h⟩ := h
  exact xJ.lvs (by exact ⟨rfl, rfl, rfl, rfl, trivial⟩) (sw_Search_nextAfter_5 m _ _ _ _ h)
def w_Search_falseGoal_44 (Q : xO → xS → Prop) (K16 : Int32 → Int32 → Int32 → xS → Prop) : Nat → Int32 → Int32 → Int32 → Int32 → xS → Prop
  | 0 => fun _ _ _ _ _ => False
  | n + 1 => fun a1 a3 a4 a5 σ =>
    (vp_in a3 501 ∧ (((xi σ 34 a3.toNatClampNeg) ≤ a5 → (vp_in a3 501 ∧ (vp_in (xi σ 32 a3.toNatClampNeg) 2000 ∧ ((¬ (lg_cmp (xl σ 41 (xi σ 32 a3.toNatClampNeg).toNatClampNeg) 0) = 0 → (vp_in a3 501 ∧ (∀ x5 : Int32, x5 = (xi σ 34 a3.toNatClampNeg) → (∀ x6 : Int32, x6 = a3 + 1 → K16 a1 x5 x6 σ)))) ∧ ((lg_cmp (xl σ 41 (xi σ 32 a3.toNatClampNeg).toNatClampNeg) 0) = 0 → (vp_in a3 501 ∧ Q (.inl (some (.int (xi σ 32 a3.toNatClampNeg)))) σ)))))) ∧ (¬ (xi σ 34 a3.toNatClampNeg) ≤ a5 → (vp_in a5 2000 ∧ (vp_in (xi σ 33 a5.toNatClampNeg) 2000 ∧ ((((xi σ 31 (xi σ 33 a5.toNatClampNeg).toNatClampNeg) &&& a4) = 0 → (∀ x7 : Int32, x7 = a5 + 1 → w_Search_falseGoal_44 Q K16 n a1 a3 a4 x7 σ)) ∧ (¬ ((xi σ 31 (xi σ 33 a5.toNatClampNeg).toNatClampNeg) &&& a4) = 0 → (vp_in a5 2000 ∧ wp_Evaluator_workOut_40 (xqv (fun u8 => (∀ x10 : Int32, x10 = a5 + 1 → w_Search_falseGoal_44 Q K16 n a1 a3 a4 x10 u8)) (fun n u => Q (.inr n) u)) σ (xi σ 33 a5.toNatClampNeg)))))))))
def w_Search_falseGoal_16 (Q : xO → xS → Prop) : Nat → Int32 → Int32 → Int32 → xS → Prop
  | 0 => fun _ _ _ _ => False
  | n + 1 => fun a1 a2 a3 σ =>
    (((xi σ 30 7) ≤ a3 → Q (.inl (some (.int (-1)))) σ) ∧ (¬ (xi σ 30 7) ≤ a3 → (vp_in a3 501 ∧ (∀ x3 : Int32, x3 = (a1 ^^^ (xi σ 35 a3.toNatClampNeg)) → (vp_in a3 501 ∧ (∀ s4 : xS, s4 = xpi σ 35 a3.toNatClampNeg a1 → ∃ m, w_Search_falseGoal_44 Q (w_Search_falseGoal_16 Q n) m a1 a3 x3 a2 s4))))))
def wp_Search_falseGoal (Q : xO → xS → Prop) (σ : xS) (a1 : Int32) : Prop :=
  wp_Evaluator_takeThings_40 (xqv (fun u1 => ∃ m, w_Search_falseGoal_16 Q m a1 0 0 u1) (fun n u => Q (.inr n) u)) σ a1 (xi σ 30 15)
set_option maxRecDepth 20000 in
theorem sw_Search_falseGoal_44 {γ : xG1} {d b0 : Nat} {Q : xO → xS → Prop} {K16 : Int32 → Int32 → Int32 → xS → Prop} (hK16 : ∀ a1 a2 a3 σ, K16 a1 a2 a3 σ → xJ (SHP, γ) Y_Search_falseGoal (d + 4) b0 16 [(0, .ref 30), (1, .int a1), (2, .int a2), (3, .int a3)] [] σ Q) : ∀ (n : Nat) (a1 : Int32) (a3 : Int32) (a4 : Int32) (a5 : Int32) (σ : xS), w_Search_falseGoal_44 Q K16 n a1 a3 a4 a5 σ → xJ (SHP, γ) Y_Search_falseGoal (d + 4) b0 44 [(0, .ref 30), (1, .int a1), (3, .int a3), (4, .int a4), (5, .int a5)] [] σ Q := by
  intro n
  induction n with
  | zero => intro a1 a3 a4 a5 σ h; exact h.elim
  | succ n ih =>
    intro a1 a3 a4 a5 σ h
    refine xJ.iload (o_Search_falseGoal 28 rfl) rfl ?_
    refine xJ.aload_n (o_Search_falseGoal 29 rfl) rfl ?_
    refine xJ.getfield (o_Search_falseGoal 30 rfl) f_Search_21 rfl rfl ?_
    refine xJ.iload_n (o_Search_falseGoal 31 rfl) rfl ?_
    refine xJ.iaload (o_Search_falseGoal 32 rfl) rfl h.1 ?_
    replace h := h.2
    refine xJ.icmp_ge (tgt := 93) (o_Search_falseGoal 33 rfl) (by decide) (fun z => ?_) (fun z => ?_)
    · replace h := h.1 z
      refine xJ.aload_n (o_Search_falseGoal 53 rfl) rfl ?_
      refine xJ.getfield (o_Search_falseGoal 54 rfl) f_Search_56 rfl rfl ?_
      refine xJ.getfield (o_Search_falseGoal 55 rfl) f_Search_62 rfl rfl ?_
      refine xJ.aload_n (o_Search_falseGoal 56 rfl) rfl ?_
      refine xJ.getfield (o_Search_falseGoal 57 rfl) f_Search_15 rfl rfl ?_
      refine xJ.iload_n (o_Search_falseGoal 58 rfl) rfl ?_
      refine xJ.iaload (o_Search_falseGoal 59 rfl) rfl h.1 ?_
      replace h := h.2
      refine xJ.laload (o_Search_falseGoal 60 rfl) rfl h.1 ?_
      replace h := h.2
      refine xJ.lconst (v := 0) (o_Search_falseGoal 61 rfl) (by decide) ?_
      refine xJ.lcmp (o_Search_falseGoal 62 rfl) ?_
      refine xJ.if_ne (tgt := 119) (o_Search_falseGoal 63 rfl) (by decide) (fun z => ?_) (fun z => ?_)
      · replace h := h.1 z
        refine xJ.aload_n (o_Search_falseGoal 69 rfl) rfl ?_
        refine xJ.getfield (o_Search_falseGoal 70 rfl) f_Search_21 rfl rfl ?_
        refine xJ.iload_n (o_Search_falseGoal 71 rfl) rfl ?_
        refine xJ.iaload (o_Search_falseGoal 72 rfl) rfl h.1 ?_
        replace h := h.2
        refine xJ.istore_n (o_Search_falseGoal 73 rfl) (by decide) ?_
        replace h := h _ rfl
        refine xJ.iincC (w := 1) (o_Search_falseGoal 74 rfl) rfl (by decide) (by decide) ?_
        replace h := h _ rfl
        refine xJ.goto (tgt := 16) (o_Search_falseGoal 75 rfl) (by decide) ?_
        exact xJ.lvs (by exact ⟨rfl, rfl, rfl, rfl, trivial⟩) (hK16 _ _ _ _ h)
      · replace h := h.2 z
        refine xJ.aload_n (o_Search_falseGoal 64 rfl) rfl ?_
        refine xJ.getfield (o_Search_falseGoal 65 rfl) f_Search_15 rfl rfl ?_
        refine xJ.iload_n (o_Search_falseGoal 66 rfl) rfl ?_
        refine xJ.iaload (o_Search_falseGoal 67 rfl) rfl h.1 ?_
        replace h := h.2
        exact xJ.ireturn (o_Search_falseGoal 68 rfl) rfl h
    · replace h := h.2 z
      refine xJ.aload_n (o_Search_falseGoal 34 rfl) rfl ?_
      refine xJ.getfield (o_Search_falseGoal 35 rfl) f_Search_9 rfl rfl ?_
      refine xJ.aload_n (o_Search_falseGoal 36 rfl) rfl ?_
      refine xJ.getfield (o_Search_falseGoal 37 rfl) f_Search_18 rfl rfl ?_
      refine xJ.iload (o_Search_falseGoal 38 rfl) rfl ?_
      refine xJ.iaload (o_Search_falseGoal 39 rfl) rfl h.1 ?_
      replace h := h.2
      refine xJ.iaload (o_Search_falseGoal 40 rfl) rfl h.1 ?_
      replace h := h.2
      refine xJ.iload (o_Search_falseGoal 41 rfl) rfl ?_
      refine xJ.iand (o_Search_falseGoal 42 rfl) ?_
      refine xJ.if_eq (tgt := 87) (o_Search_falseGoal 43 rfl) (by decide) (fun z => ?_) (fun z => ?_)
      · replace h := h.1 z
        refine xJ.iincC (w := 1) (o_Search_falseGoal 51 rfl) rfl (by decide) (by decide) ?_
        replace h := h _ rfl
        refine xJ.goto (tgt := 44) (o_Search_falseGoal 52 rfl) (by decide) ?_
        exact xJ.lvs (by exact ⟨rfl, rfl, rfl, rfl, rfl, trivial⟩) (ih _ _ _ _ _ h)
      · replace h := h.2 z
        refine xJ.aload_n (o_Search_falseGoal 44 rfl) rfl ?_
        refine xJ.getfield (o_Search_falseGoal 45 rfl) f_Search_56 rfl rfl ?_
        refine xJ.aload_n (o_Search_falseGoal 46 rfl) rfl ?_
        refine xJ.getfield (o_Search_falseGoal 47 rfl) f_Search_18 rfl rfl ?_
        refine xJ.iload (o_Search_falseGoal 48 rfl) rfl ?_
        refine xJ.iaload (o_Search_falseGoal 49 rfl) rfl h.1 ?_
        replace h := h.2
        refine xJ.callV (Y' := Y_Evaluator_workOut) (o_Search_falseGoal 50 rfl) m_Search_169 y_Evaluator_workOut im_Evaluator_workOut se_Evaluator_workOut rfl rfl (s_Evaluator_workOut_40 h) rfl rfl (Nat.le_of_ble_eq_true rfl) (fun _ hx => by cases hx) (fun v u q => ?_) (fun n u q => q)
        obtain ⟨rfl, h⟩ := xqv_get q
        refine xJ.iincC (w := 1) (o_Search_falseGoal 51 rfl) rfl (by decide) (by decide) ?_
        replace h := h _ rfl
        refine xJ.goto (tgt := 44) (o_Search_falseGoal 52 rfl) (by decide) ?_
        exact xJ.lvs (by exact ⟨rfl, rfl, rfl, rfl, rfl, trivial⟩) (ih _ _ _ _ _ h)
set_option maxRecDepth 20000 in
theorem sw_Search_falseGoal_16 {γ : xG1} {d b0 : Nat} {Q : xO → xS → Prop} : ∀ (n : Nat) (a1 : Int32) (a2 : Int32) (a3 : Int32) (σ : xS), w_Search_falseGoal_16 Q n a1 a2 a3 σ → xJ (SHP, γ) Y_Search_falseGoal (d + 4) b0 16 [(0, .ref 30), (1, .int a1), (2, .int a2), (3, .int a3)] [] σ Q := by
  intro n
  induction n with
  | zero => intro a1 a2 a3 σ h; exact h.elim
  | succ n ih =>
    intro a1 a2 a3 σ h
    refine xJ.iload_n (o_Search_falseGoal 10 rfl) rfl ?_
    refine xJ.aload_n (o_Search_falseGoal 11 rfl) rfl ?_
    refine xJ.getfield (o_Search_falseGoal 12 rfl) f_Search_141 rfl rfl ?_
    refine xJ.icmp_ge (tgt := 132) (o_Search_falseGoal 13 rfl) (by decide) (fun z => ?_) (fun z => ?_)
    · replace h := h.1 z
      refine xJ.iconst (v := (-1)) (o_Search_falseGoal 76 rfl) (by decide) ?_
      exact xJ.ireturn (o_Search_falseGoal 77 rfl) rfl h
    · replace h := h.2 z
      refine xJ.iload_n (o_Search_falseGoal 14 rfl) rfl ?_
      refine xJ.aload_n (o_Search_falseGoal 15 rfl) rfl ?_
      refine xJ.getfield (o_Search_falseGoal 16 rfl) f_Search_24 rfl rfl ?_
      refine xJ.iload_n (o_Search_falseGoal 17 rfl) rfl ?_
      refine xJ.iaload (o_Search_falseGoal 18 rfl) rfl h.1 ?_
      replace h := h.2
      refine xJ.ixor (o_Search_falseGoal 19 rfl) ?_
      refine xJ.istore (o_Search_falseGoal 20 rfl) (by decide) ?_
      replace h := h _ rfl
      refine xJ.aload_n (o_Search_falseGoal 21 rfl) rfl ?_
      refine xJ.getfield (o_Search_falseGoal 22 rfl) f_Search_24 rfl rfl ?_
      refine xJ.iload_n (o_Search_falseGoal 23 rfl) rfl ?_
      refine xJ.iload_n (o_Search_falseGoal 24 rfl) rfl ?_
      refine xJ.iastore (o_Search_falseGoal 25 rfl) rfl h.1 ?_
      replace h := h.2
      replace h := h _ rfl
      refine xJ.iload_n (o_Search_falseGoal 26 rfl) rfl ?_
      refine xJ.istore (o_Search_falseGoal 27 rfl) (by decide) ?_
      obtain ⟨m, h⟩ := h
      exact xJ.lvs (by exact ⟨rfl, rfl, rfl, rfl, rfl, trivial⟩) (sw_Search_falseGoal_44 ih m _ _ _ _ _ h)
set_option maxRecDepth 20000 in
theorem s_Search_falseGoal {γ : xG1} {d : Nat} {Q : xO → xS → Prop} {σ : xS} {a1 : Int32} (h : wp_Search_falseGoal Q σ a1) : xM (SHP, γ) Y_Search_falseGoal (d + 4) [.ref 30, .int a1] σ Q := by
  refine xM.of (by decide) (Nat.le_of_ble_eq_true rfl) ?_
  refine xJ.aload_n (o_Search_falseGoal 0 rfl) rfl ?_
  refine xJ.getfield (o_Search_falseGoal 1 rfl) f_Search_56 rfl rfl ?_
  refine xJ.iload_n (o_Search_falseGoal 2 rfl) rfl ?_
  refine xJ.aload_n (o_Search_falseGoal 3 rfl) rfl ?_
  refine xJ.getfield (o_Search_falseGoal 4 rfl) f_Search_80 rfl rfl ?_
  refine xJ.callV (Y' := Y_Evaluator_takeThings) (o_Search_falseGoal 5 rfl) m_Search_159 y_Evaluator_takeThings im_Evaluator_takeThings se_Evaluator_takeThings rfl rfl (s_Evaluator_takeThings_40 h) rfl rfl (Nat.le_of_ble_eq_true rfl) (fun _ hx => by cases hx) (fun v u q => ?_) (fun n u q => q)
  obtain ⟨rfl, h⟩ := xqv_get q
  refine xJ.iconst (v := 0) (o_Search_falseGoal 6 rfl) (by decide) ?_
  refine xJ.istore_n (o_Search_falseGoal 7 rfl) (by decide) ?_
  refine xJ.iconst (v := 0) (o_Search_falseGoal 8 rfl) (by decide) ?_
  refine xJ.istore_n (o_Search_falseGoal 9 rfl) (by decide) ?_
  obtain ⟨m, h⟩ := h
  exact xJ.lvs (by exact ⟨rfl, rfl, rfl, rfl, trivial⟩) (sw_Search_falseGoal_16 m _ _ _ _ h)
def w_Search_learnBound_2 (Q : xO → xS → Prop) : Nat → Int32 → Int32 → xS → Prop
  | 0 => fun _ _ _ => False
  | n + 1 => fun a1 a2 σ =>
    (((xi σ 30 15) ≤ a2 → Q (.inl none) σ) ∧ (¬ (xi σ 30 15) ≤ a2 → (∀ x1 : Int32, x1 = (jishl 1 a2) → (((a1 &&& x1) = 0 → (∀ x2 : Int32, x2 = a2 + 1 → w_Search_learnBound_2 Q n a1 x2 σ)) ∧ (¬ (a1 &&& x1) = 0 → (∀ x3 : Int32, x3 = ((xi σ 30 16) &&& (((2 * x1) - 1) ^^^ (-1))) → (vp_in a2 16 ∧ (∀ s4 : xS, s4 = xpi σ 38 a2.toNatClampNeg (x1 ||| (x3 &&& (a1 ^^^ (-1)))) → (vp_in a2 16 ∧ (∀ s5 : xS, s5 = xpi s4 39 a2.toNatClampNeg 0 → (vp_in a2 16 ∧ wp_Checker_followsBound (xqi (fun r7 u6 => ((¬ r7 = 0 → (∀ x8 : Int32, x8 = a2 + 1 → w_Search_learnBound_2 Q n a1 x8 u6)) ∧ (r7 = 0 → (∀ s9 : xS, s9 = xpi u6 30 17 ((xi u6 30 17) + 1) → (vp_in a2 16 ∧ (∀ s10 : xS, s10 = xpi s9 38 a2.toNatClampNeg (x1 ||| x3) → (vp_in a2 16 ∧ (∀ s11 : xS, s11 = xpi s10 39 a2.toNatClampNeg (a1 &&& x3) → (∀ x12 : Int32, x12 = a2 + 1 → w_Search_learnBound_2 Q n a1 x12 s11))))))))) (fun n u => Q (.inr n) u)) s5 (xi s5 38 a2.toNatClampNeg) 0 a1 (xi s5 30 15))))))))))))
def wp_Search_learnBound (Q : xO → xS → Prop) (σ : xS) (a1 : Int32) : Prop :=
  ∃ m, w_Search_learnBound_2 Q m a1 0 σ
set_option maxRecDepth 20000 in
theorem sw_Search_learnBound_2 {γ : xG1} {d b0 : Nat} {Q : xO → xS → Prop} : ∀ (n : Nat) (a1 : Int32) (a2 : Int32) (σ : xS), w_Search_learnBound_2 Q n a1 a2 σ → xJ (SHP, γ) Y_Search_learnBound (d + 1) b0 2 [(0, .ref 30), (1, .int a1), (2, .int a2)] [] σ Q := by
  intro n
  induction n with
  | zero => intro a1 a2 σ h; exact h.elim
  | succ n ih =>
    intro a1 a2 σ h
    refine xJ.iload_n (o_Search_learnBound 2 rfl) rfl ?_
    refine xJ.aload_n (o_Search_learnBound 3 rfl) rfl ?_
    refine xJ.getfield (o_Search_learnBound 4 rfl) f_Search_80 rfl rfl ?_
    refine xJ.icmp_ge (tgt := 113) (o_Search_learnBound 5 rfl) (by decide) (fun z => ?_) (fun z => ?_)
    · replace h := h.1 z
      exact xJ.return_ (o_Search_learnBound 75 rfl) rfl h
    · replace h := h.2 z
      refine xJ.iconst (v := 1) (o_Search_learnBound 6 rfl) (by decide) ?_
      refine xJ.iload_n (o_Search_learnBound 7 rfl) rfl ?_
      refine xJ.ishl (o_Search_learnBound 8 rfl) ?_
      refine xJ.istore_n (o_Search_learnBound 9 rfl) (by decide) ?_
      replace h := h _ rfl
      refine xJ.iload_n (o_Search_learnBound 10 rfl) rfl ?_
      refine xJ.iload_n (o_Search_learnBound 11 rfl) rfl ?_
      refine xJ.iand (o_Search_learnBound 12 rfl) ?_
      refine xJ.if_eq (tgt := 107) (o_Search_learnBound 13 rfl) (by decide) (fun z => ?_) (fun z => ?_)
      · replace h := h.1 z
        refine xJ.iincC (w := 1) (o_Search_learnBound 73 rfl) rfl (by decide) (by decide) ?_
        replace h := h _ rfl
        refine xJ.goto (tgt := 2) (o_Search_learnBound 74 rfl) (by decide) ?_
        exact xJ.lvs (by exact ⟨rfl, rfl, rfl, trivial⟩) (ih _ _ _ h)
      · replace h := h.2 z
        refine xJ.aload_n (o_Search_learnBound 14 rfl) rfl ?_
        refine xJ.getfield (o_Search_learnBound 15 rfl) f_Search_84 rfl rfl ?_
        refine xJ.iconst (v := 2) (o_Search_learnBound 16 rfl) (by decide) ?_
        refine xJ.iload_n (o_Search_learnBound 17 rfl) rfl ?_
        refine xJ.imul (o_Search_learnBound 18 rfl) ?_
        refine xJ.iconst (v := 1) (o_Search_learnBound 19 rfl) (by decide) ?_
        refine xJ.isub (o_Search_learnBound 20 rfl) ?_
        refine xJ.iconst (v := (-1)) (o_Search_learnBound 21 rfl) (by decide) ?_
        refine xJ.ixor (o_Search_learnBound 22 rfl) ?_
        refine xJ.iand (o_Search_learnBound 23 rfl) ?_
        refine xJ.istore (o_Search_learnBound 24 rfl) (by decide) ?_
        replace h := h _ rfl
        refine xJ.aload_n (o_Search_learnBound 25 rfl) rfl ?_
        refine xJ.getfield (o_Search_learnBound 26 rfl) f_Search_34 rfl rfl ?_
        refine xJ.iload_n (o_Search_learnBound 27 rfl) rfl ?_
        refine xJ.iload_n (o_Search_learnBound 28 rfl) rfl ?_
        refine xJ.iload (o_Search_learnBound 29 rfl) rfl ?_
        refine xJ.iload_n (o_Search_learnBound 30 rfl) rfl ?_
        refine xJ.iconst (v := (-1)) (o_Search_learnBound 31 rfl) (by decide) ?_
        refine xJ.ixor (o_Search_learnBound 32 rfl) ?_
        refine xJ.iand (o_Search_learnBound 33 rfl) ?_
        refine xJ.ior (o_Search_learnBound 34 rfl) ?_
        refine xJ.iastore (o_Search_learnBound 35 rfl) rfl h.1 ?_
        replace h := h.2
        replace h := h _ rfl
        refine xJ.aload_n (o_Search_learnBound 36 rfl) rfl ?_
        refine xJ.getfield (o_Search_learnBound 37 rfl) f_Search_37 rfl rfl ?_
        refine xJ.iload_n (o_Search_learnBound 38 rfl) rfl ?_
        refine xJ.iconst (v := 0) (o_Search_learnBound 39 rfl) (by decide) ?_
        refine xJ.iastore (o_Search_learnBound 40 rfl) rfl h.1 ?_
        replace h := h.2
        replace h := h _ rfl
        refine xJ.aload_n (o_Search_learnBound 41 rfl) rfl ?_
        refine xJ.getfield (o_Search_learnBound 42 rfl) f_Search_76 rfl rfl ?_
        refine xJ.aload_n (o_Search_learnBound 43 rfl) rfl ?_
        refine xJ.getfield (o_Search_learnBound 44 rfl) f_Search_34 rfl rfl ?_
        refine xJ.iload_n (o_Search_learnBound 45 rfl) rfl ?_
        refine xJ.iaload (o_Search_learnBound 46 rfl) rfl h.1 ?_
        replace h := h.2
        refine xJ.iconst (v := 0) (o_Search_learnBound 47 rfl) (by decide) ?_
        refine xJ.iload_n (o_Search_learnBound 48 rfl) rfl ?_
        refine xJ.aload_n (o_Search_learnBound 49 rfl) rfl ?_
        refine xJ.getfield (o_Search_learnBound 50 rfl) f_Search_80 rfl rfl ?_
        refine xJ.callV (Y' := Y_Checker_followsBound) (o_Search_learnBound 51 rfl) m_Search_172 y_Checker_followsBound im_Checker_followsBound se_Checker_followsBound rfl rfl (s_Checker_followsBound h) rfl rfl (Nat.le_of_ble_eq_true rfl) (fun _ hx => by cases hx) (fun v u q => ?_) (fun n u q => q)
        obtain ⟨r, rfl, h⟩ := xqi_get q
        refine xJ.if_ne (tgt := 107) (o_Search_learnBound 52 rfl) (by decide) (fun z => ?_) (fun z => ?_)
        · replace h := h.1 z
          refine xJ.iincC (w := 1) (o_Search_learnBound 73 rfl) rfl (by decide) (by decide) ?_
          replace h := h _ rfl
          refine xJ.goto (tgt := 2) (o_Search_learnBound 74 rfl) (by decide) ?_
          exact xJ.lvs (by exact ⟨rfl, rfl, rfl, trivial⟩) (ih _ _ _ h)
        · replace h := h.2 z
          refine xJ.aload_n (o_Search_learnBound 53 rfl) rfl ?_
          refine xJ.dup (o_Search_learnBound 54 rfl) rfl ?_
          refine xJ.getfield (o_Search_learnBound 55 rfl) f_Search_112 rfl rfl ?_
          refine xJ.iconst (v := 1) (o_Search_learnBound 56 rfl) (by decide) ?_
          refine xJ.iadd (o_Search_learnBound 57 rfl) ?_
          refine xJ.putI (o_Search_learnBound 58 rfl) f_Search_112 rfl rfl rfl ?_
          replace h := h _ rfl
          refine xJ.aload_n (o_Search_learnBound 59 rfl) rfl ?_
          refine xJ.getfield (o_Search_learnBound 60 rfl) f_Search_34 rfl rfl ?_
          refine xJ.iload_n (o_Search_learnBound 61 rfl) rfl ?_
          refine xJ.iload_n (o_Search_learnBound 62 rfl) rfl ?_
          refine xJ.iload (o_Search_learnBound 63 rfl) rfl ?_
          refine xJ.ior (o_Search_learnBound 64 rfl) ?_
          refine xJ.iastore (o_Search_learnBound 65 rfl) rfl h.1 ?_
          replace h := h.2
          replace h := h _ rfl
          refine xJ.aload_n (o_Search_learnBound 66 rfl) rfl ?_
          refine xJ.getfield (o_Search_learnBound 67 rfl) f_Search_37 rfl rfl ?_
          refine xJ.iload_n (o_Search_learnBound 68 rfl) rfl ?_
          refine xJ.iload_n (o_Search_learnBound 69 rfl) rfl ?_
          refine xJ.iload (o_Search_learnBound 70 rfl) rfl ?_
          refine xJ.iand (o_Search_learnBound 71 rfl) ?_
          refine xJ.iastore (o_Search_learnBound 72 rfl) rfl h.1 ?_
          replace h := h.2
          replace h := h _ rfl
          refine xJ.iincC (w := 1) (o_Search_learnBound 73 rfl) rfl (by decide) (by decide) ?_
          replace h := h _ rfl
          refine xJ.goto (tgt := 2) (o_Search_learnBound 74 rfl) (by decide) ?_
          exact xJ.lvs (by exact ⟨rfl, rfl, rfl, trivial⟩) (ih _ _ _ h)
set_option maxRecDepth 20000 in
theorem s_Search_learnBound {γ : xG1} {d : Nat} {Q : xO → xS → Prop} {σ : xS} {a1 : Int32} (h : wp_Search_learnBound Q σ a1) : xM (SHP, γ) Y_Search_learnBound (d + 1) [.ref 30, .int a1] σ Q := by
  refine xM.of (by decide) (Nat.le_of_ble_eq_true rfl) ?_
  refine xJ.iconst (v := 0) (o_Search_learnBound 0 rfl) (by decide) ?_
  refine xJ.istore_n (o_Search_learnBound 1 rfl) (by decide) ?_
  obtain ⟨m, h⟩ := h
  exact xJ.lvs (by exact ⟨rfl, rfl, rfl, trivial⟩) (sw_Search_learnBound_2 m _ _ _ h)
def w_Terms_markArguments_6_36_7 (Q : xO → xS → Prop) : Nat → Int32 → Int32 → xS → Prop
  | 0 => fun _ _ _ => False
  | n + 1 => fun a1 a3 σ =>
    (vp_in (a1 + 1) 2001 ∧ (((xi σ 9 (a1 + 1).toNatClampNeg) ≤ a3 → Q (.inl none) σ) ∧ (¬ (xi σ 9 (a1 + 1).toNatClampNeg) ≤ a3 → (vp_in a3 80000 ∧ (vp_in (xi σ 10 a3.toNatClampNeg) 2000 ∧ (((xi σ 7 (xi σ 10 a3.toNatClampNeg).toNatClampNeg) = 47 → (∀ x2 : Int32, x2 = a3 + 1 → w_Terms_markArguments_6_36_7 Q n a1 x2 σ)) ∧ (¬ (xi σ 7 (xi σ 10 a3.toNatClampNeg).toNatClampNeg) = 47 → (vp_in a3 80000 ∧ (vp_in (xi σ 10 a3.toNatClampNeg) 2000 ∧ (∀ s3 : xS, s3 = xpi σ 36 (xi σ 10 a3.toNatClampNeg).toNatClampNeg (vp_nar .byte 1) → (∀ x4 : Int32, x4 = a3 + 1 → w_Terms_markArguments_6_36_7 Q n a1 x4 s3)))))))))))
def wp_Terms_markArguments_6_36 (Q : xO → xS → Prop) (σ : xS) (a1 : Int32) : Prop :=
  (vp_in a1 2001 ∧ (∀ x1 : Int32, x1 = (xi σ 9 a1.toNatClampNeg) → ∃ m, w_Terms_markArguments_6_36_7 Q m a1 x1 σ))
set_option maxRecDepth 20000 in
theorem sw_Terms_markArguments_6_36_7 {γ : xG1} {d b0 : Nat} {Q : xO → xS → Prop} : ∀ (n : Nat) (a1 : Int32) (a3 : Int32) (σ : xS), w_Terms_markArguments_6_36_7 Q n a1 a3 σ → xJ (SHP, γ) Y_Terms_markArguments (d + 0) b0 7 [(0, .ref 6), (1, .int a1), (2, .ref 36), (3, .int a3)] [] σ Q := by
  intro n
  induction n with
  | zero => intro a1 a3 σ h; exact h.elim
  | succ n ih =>
    intro a1 a3 σ h
    refine xJ.iload_n (o_Terms_markArguments 5 rfl) rfl ?_
    refine xJ.aload_n (o_Terms_markArguments 6 rfl) rfl ?_
    refine xJ.getfield (o_Terms_markArguments 7 rfl) f_Terms_18 rfl rfl ?_
    refine xJ.iload_n (o_Terms_markArguments 8 rfl) rfl ?_
    refine xJ.iconst (v := 1) (o_Terms_markArguments 9 rfl) (by decide) ?_
    refine xJ.iadd (o_Terms_markArguments 10 rfl) ?_
    refine xJ.iaload (o_Terms_markArguments 11 rfl) rfl h.1 ?_
    replace h := h.2
    refine xJ.icmp_ge (tgt := 50) (o_Terms_markArguments 12 rfl) (by decide) (fun z => ?_) (fun z => ?_)
    · replace h := h.1 z
      exact xJ.return_ (o_Terms_markArguments 31 rfl) rfl h
    · replace h := h.2 z
      refine xJ.aload_n (o_Terms_markArguments 13 rfl) rfl ?_
      refine xJ.getfield (o_Terms_markArguments 14 rfl) f_Terms_9 rfl rfl ?_
      refine xJ.aload_n (o_Terms_markArguments 15 rfl) rfl ?_
      refine xJ.getfield (o_Terms_markArguments 16 rfl) f_Terms_22 rfl rfl ?_
      refine xJ.iload_n (o_Terms_markArguments 17 rfl) rfl ?_
      refine xJ.iaload (o_Terms_markArguments 18 rfl) rfl h.1 ?_
      replace h := h.2
      refine xJ.iaload (o_Terms_markArguments 19 rfl) rfl h.1 ?_
      replace h := h.2
      refine xJ.bipush (v := 47) (o_Terms_markArguments 20 rfl) (by decide) ?_
      refine xJ.icmp_eq (tgt := 44) (o_Terms_markArguments 21 rfl) (by decide) (fun z => ?_) (fun z => ?_)
      · replace h := h.1 z
        refine xJ.iincC (w := 1) (o_Terms_markArguments 29 rfl) rfl (by decide) (by decide) ?_
        replace h := h _ rfl
        refine xJ.goto (tgt := 7) (o_Terms_markArguments 30 rfl) (by decide) ?_
        exact xJ.lvs (by exact ⟨rfl, rfl, rfl, rfl, trivial⟩) (ih _ _ _ h)
      · replace h := h.2 z
        refine xJ.aload_n (o_Terms_markArguments 22 rfl) rfl ?_
        refine xJ.aload_n (o_Terms_markArguments 23 rfl) rfl ?_
        refine xJ.getfield (o_Terms_markArguments 24 rfl) f_Terms_22 rfl rfl ?_
        refine xJ.iload_n (o_Terms_markArguments 25 rfl) rfl ?_
        refine xJ.iaload (o_Terms_markArguments 26 rfl) rfl h.1 ?_
        replace h := h.2
        refine xJ.iconst (v := 1) (o_Terms_markArguments 27 rfl) (by decide) ?_
        refine xJ.bastore (o_Terms_markArguments 28 rfl) rfl h.1 ?_
        replace h := h.2
        replace h := h _ rfl
        refine xJ.iincC (w := 1) (o_Terms_markArguments 29 rfl) rfl (by decide) (by decide) ?_
        replace h := h _ rfl
        refine xJ.goto (tgt := 7) (o_Terms_markArguments 30 rfl) (by decide) ?_
        exact xJ.lvs (by exact ⟨rfl, rfl, rfl, rfl, trivial⟩) (ih _ _ _ h)
set_option maxRecDepth 20000 in
theorem s_Terms_markArguments_6_36 {γ : xG1} {d : Nat} {Q : xO → xS → Prop} {σ : xS} {a1 : Int32} (h : wp_Terms_markArguments_6_36 Q σ a1) : xM (SHP, γ) Y_Terms_markArguments (d + 0) [.ref 6, .int a1, .ref 36] σ Q := by
  refine xM.of (by decide) (Nat.le_of_ble_eq_true rfl) ?_
  refine xJ.aload_n (o_Terms_markArguments 0 rfl) rfl ?_
  refine xJ.getfield (o_Terms_markArguments 1 rfl) f_Terms_18 rfl rfl ?_
  refine xJ.iload_n (o_Terms_markArguments 2 rfl) rfl ?_
  refine xJ.iaload (o_Terms_markArguments 3 rfl) rfl h.1 ?_
  replace h := h.2
  refine xJ.istore_n (o_Terms_markArguments 4 rfl) (by decide) ?_
  replace h := h _ rfl
  obtain ⟨m, h⟩ := h
  exact xJ.lvs (by exact ⟨rfl, rfl, rfl, rfl, trivial⟩) (sw_Terms_markArguments_6_36_7 m _ _ _ h)
def w_Terms_markCone_6_36_6 (Q : xO → xS → Prop) : Nat → Int32 → Int32 → xS → Prop
  | 0 => fun _ _ _ => False
  | n + 1 => fun a1 a3 σ =>
    (vp_in a1 2000 ∧ ((a3 < (xi σ 14 a1.toNatClampNeg) → Q (.inl none) σ) ∧ (¬ a3 < (xi σ 14 a1.toNatClampNeg) → (vp_in a3 2000 ∧ (((xi σ 36 a3.toNatClampNeg) = 0 → (∀ x2 : Int32, x2 = a3 + (-1) → w_Terms_markCone_6_36_6 Q n a1 x2 σ)) ∧ (¬ (xi σ 36 a3.toNatClampNeg) = 0 → wp_Terms_markArguments_6_36 (xqv (fun u3 => (∀ x5 : Int32, x5 = a3 + (-1) → w_Terms_markCone_6_36_6 Q n a1 x5 u3)) (fun n u => Q (.inr n) u)) σ a3))))))
def wp_Terms_markCone_6_36 (Q : xO → xS → Prop) (σ : xS) (a1 : Int32) : Prop :=
  (vp_in a1 2000 ∧ (∀ s1 : xS, s1 = xpi σ 36 a1.toNatClampNeg (vp_nar .byte 1) → ∃ m, w_Terms_markCone_6_36_6 Q m a1 a1 s1))
set_option maxRecDepth 20000 in
theorem sw_Terms_markCone_6_36_6 {γ : xG1} {d b0 : Nat} {Q : xO → xS → Prop} : ∀ (n : Nat) (a1 : Int32) (a3 : Int32) (σ : xS), w_Terms_markCone_6_36_6 Q n a1 a3 σ → xJ (SHP, γ) Y_Terms_markCone (d + 1) b0 6 [(0, .ref 6), (1, .int a1), (2, .ref 36), (3, .int a3)] [] σ Q := by
  intro n
  induction n with
  | zero => intro a1 a3 σ h; exact h.elim
  | succ n ih =>
    intro a1 a3 σ h
    refine xJ.iload_n (o_Terms_markCone 6 rfl) rfl ?_
    refine xJ.aload_n (o_Terms_markCone 7 rfl) rfl ?_
    refine xJ.getfield (o_Terms_markCone 8 rfl) f_Terms_35 rfl rfl ?_
    refine xJ.iload_n (o_Terms_markCone 9 rfl) rfl ?_
    refine xJ.iaload (o_Terms_markCone 10 rfl) rfl h.1 ?_
    replace h := h.2
    refine xJ.icmp_lt (tgt := 34) (o_Terms_markCone 11 rfl) (by decide) (fun z => ?_) (fun z => ?_)
    · replace h := h.1 z
      exact xJ.return_ (o_Terms_markCone 22 rfl) rfl h
    · replace h := h.2 z
      refine xJ.aload_n (o_Terms_markCone 12 rfl) rfl ?_
      refine xJ.iload_n (o_Terms_markCone 13 rfl) rfl ?_
      refine xJ.baload (o_Terms_markCone 14 rfl) rfl h.1 ?_
      replace h := h.2
      refine xJ.if_eq (tgt := 28) (o_Terms_markCone 15 rfl) (by decide) (fun z => ?_) (fun z => ?_)
      · replace h := h.1 z
        refine xJ.iincC (w := (-1)) (o_Terms_markCone 20 rfl) rfl (by decide) (by decide) ?_
        replace h := h _ rfl
        refine xJ.goto (tgt := 6) (o_Terms_markCone 21 rfl) (by decide) ?_
        exact xJ.lvs (by exact ⟨rfl, rfl, rfl, rfl, trivial⟩) (ih _ _ _ h)
      · replace h := h.2 z
        refine xJ.aload_n (o_Terms_markCone 16 rfl) rfl ?_
        refine xJ.iload_n (o_Terms_markCone 17 rfl) rfl ?_
        refine xJ.aload_n (o_Terms_markCone 18 rfl) rfl ?_
        refine xJ.callV (Y' := Y_Terms_markArguments) (o_Terms_markCone 19 rfl) m_Terms_62 y_Terms_markArguments im_Terms_markArguments se_Terms_markArguments rfl rfl (s_Terms_markArguments_6_36 h) rfl rfl (Nat.le_of_ble_eq_true rfl) (fun _ hx => by cases hx) (fun v u q => ?_) (fun n u q => q)
        obtain ⟨rfl, h⟩ := xqv_get q
        refine xJ.iincC (w := (-1)) (o_Terms_markCone 20 rfl) rfl (by decide) (by decide) ?_
        replace h := h _ rfl
        refine xJ.goto (tgt := 6) (o_Terms_markCone 21 rfl) (by decide) ?_
        exact xJ.lvs (by exact ⟨rfl, rfl, rfl, rfl, trivial⟩) (ih _ _ _ h)
set_option maxRecDepth 20000 in
theorem s_Terms_markCone_6_36 {γ : xG1} {d : Nat} {Q : xO → xS → Prop} {σ : xS} {a1 : Int32} (h : wp_Terms_markCone_6_36 Q σ a1) : xM (SHP, γ) Y_Terms_markCone (d + 1) [.ref 6, .int a1, .ref 36] σ Q := by
  refine xM.of (by decide) (Nat.le_of_ble_eq_true rfl) ?_
  refine xJ.aload_n (o_Terms_markCone 0 rfl) rfl ?_
  refine xJ.iload_n (o_Terms_markCone 1 rfl) rfl ?_
  refine xJ.iconst (v := 1) (o_Terms_markCone 2 rfl) (by decide) ?_
  refine xJ.bastore (o_Terms_markCone 3 rfl) rfl h.1 ?_
  replace h := h.2
  replace h := h _ rfl
  refine xJ.iload_n (o_Terms_markCone 4 rfl) rfl ?_
  refine xJ.istore_n (o_Terms_markCone 5 rfl) (by decide) ?_
  obtain ⟨m, h⟩ := h
  exact xJ.lvs (by exact ⟨rfl, rfl, rfl, rfl, trivial⟩) (sw_Terms_markCone_6_36_6 m _ _ _ h)
def w_Search_listSteps_138 (Q : xO → xS → Prop) (K83 : Int32 → Int32 → Int32 → Int32 → Int32 → xS → Prop) (a1 : Int32) (a2 : Int32) (a3 : Int32) (a4 : Int32) (a5 : Int32) (σ : xS) : Prop :=
  (vp_in a5 2000 ∧ (∀ s10 : xS, s10 = xpi σ 36 a5.toNatClampNeg (vp_nar .byte 0) → (∀ x11 : Int32, x11 = a5 + 1 → K83 a1 a2 a3 a4 x11 s10)))
def w_Search_listSteps_83 (Q : xO → xS → Prop) (K42 : Int32 → Int32 → Int32 → xS → Prop) : Nat → Int32 → Int32 → Int32 → Int32 → Int32 → xS → Prop
  | 0 => fun _ _ _ _ _ _ => False
  | n + 1 => fun a1 a2 a3 a4 a5 σ =>
    ((a4 < a5 → (vp_in a3 501 ∧ (∀ s7 : xS, s7 = xpi σ 34 a3.toNatClampNeg a2 → (vp_in a3 501 ∧ (∀ s8 : xS, s8 = xpi s7 35 a3.toNatClampNeg a1 → (∀ x9 : Int32, x9 = a3 + 1 → K42 a1 a2 x9 s8)))))) ∧ (¬ a4 < a5 → (vp_in a5 2000 ∧ (((xi σ 36 a5.toNatClampNeg) = 0 → w_Search_listSteps_138 Q (w_Search_listSteps_83 Q K42 n) a1 a2 a3 a4 a5 σ) ∧ (¬ (xi σ 36 a5.toNatClampNeg) = 0 → (vp_in a5 2000 ∧ ((¬ (xi σ 37 a5.toNatClampNeg) = 0 → w_Search_listSteps_138 Q (w_Search_listSteps_83 Q K42 n) a1 a2 a3 a4 a5 σ) ∧ ((xi σ 37 a5.toNatClampNeg) = 0 → (vp_in a5 2000 ∧ (∀ s12 : xS, s12 = xpi σ 37 a5.toNatClampNeg (vp_nar .byte 1) → (vp_in a2 2000 ∧ (∀ s13 : xS, s13 = xpi s12 33 a2.toNatClampNeg a5 → (∀ x14 : Int32, x14 = a2 + 1 → wp_Evaluator_workOut_40 (xqv (fun u15 => w_Search_listSteps_138 Q (w_Search_listSteps_83 Q K42 n) a1 x14 a3 a4 a5 u15) (fun n u => Q (.inr n) u)) s13 a5)))))))))))))
def w_Search_listSteps_42 (Q : xO → xS → Prop) : Nat → Int32 → Int32 → Int32 → xS → Prop
  | 0 => fun _ _ _ _ => False
  | n + 1 => fun a1 a2 a3 σ =>
    (((xi σ 30 7) ≤ a3 → Q (.inl none) σ) ∧ (¬ (xi σ 30 7) ≤ a3 → (vp_in a3 501 ∧ (∀ x3 : Int32, x3 = (xi σ 32 a3.toNatClampNeg) → wp_Terms_markCone_6_36 (xqv (fun u4 => (vp_in x3 2000 ∧ (∀ x6 : Int32, x6 = (xi u4 14 x3.toNatClampNeg) → ∃ m, w_Search_listSteps_83 Q (w_Search_listSteps_42 Q n) m a1 a2 a3 x3 x6 u4))) (fun n u => Q (.inr n) u)) σ x3))))
def w_Search_listSteps_2 (Q : xO → xS → Prop) : Nat → Int32 → Int32 → xS → Prop
  | 0 => fun _ _ _ => False
  | n + 1 => fun a1 a2 σ =>
    (((xi σ 6 9) ≤ a2 → wp_Evaluator_takeThings_40 (xqv (fun u1 => ∃ m, w_Search_listSteps_42 Q m a1 0 0 u1) (fun n u => Q (.inr n) u)) σ a1 (xi σ 30 15)) ∧ (¬ (xi σ 6 9) ≤ a2 → (vp_in a2 2000 ∧ (∀ s17 : xS, s17 = xpi σ 37 a2.toNatClampNeg (vp_nar .byte 0) → (∀ x18 : Int32, x18 = a2 + 1 → w_Search_listSteps_2 Q n a1 x18 s17)))))
def wp_Search_listSteps (Q : xO → xS → Prop) (σ : xS) (a1 : Int32) : Prop :=
  ∃ m, w_Search_listSteps_2 Q m a1 0 σ
set_option maxRecDepth 20000 in
theorem sw_Search_listSteps_138 {γ : xG1} {d b0 : Nat} {Q : xO → xS → Prop} {K83 : Int32 → Int32 → Int32 → Int32 → Int32 → xS → Prop} (hK83 : ∀ a1 a2 a3 a4 a5 σ, K83 a1 a2 a3 a4 a5 σ → xJ (SHP, γ) Y_Search_listSteps (d + 4) b0 83 [(0, .ref 30), (1, .int a1), (2, .int a2), (3, .int a3), (4, .int a4), (5, .int a5)] [] σ Q) {a1 : Int32} {a2 : Int32} {a3 : Int32} {a4 : Int32} {a5 : Int32} {σ : xS} (h : w_Search_listSteps_138 Q K83 a1 a2 a3 a4 a5 σ) : xJ (SHP, γ) Y_Search_listSteps (d + 4) b0 138 [(0, .ref 30), (1, .int a1), (2, .int a2), (3, .int a3), (4, .int a4), (5, .int a5)] [] σ Q := by
  refine xJ.aload_n (o_Search_listSteps 73 rfl) rfl ?_
  refine xJ.getfield (o_Search_listSteps 74 rfl) f_Search_27 rfl rfl ?_
  refine xJ.iload (o_Search_listSteps 75 rfl) rfl ?_
  refine xJ.iconst (v := 0) (o_Search_listSteps 76 rfl) (by decide) ?_
  refine xJ.bastore (o_Search_listSteps 77 rfl) rfl h.1 ?_
  replace h := h.2
  replace h := h _ rfl
  refine xJ.iincC (w := 1) (o_Search_listSteps 78 rfl) rfl (by decide) (by decide) ?_
  replace h := h _ rfl
  refine xJ.goto (tgt := 83) (o_Search_listSteps 79 rfl) (by decide) ?_
  exact xJ.lvs (by exact ⟨rfl, rfl, rfl, rfl, rfl, rfl, trivial⟩) (hK83 _ _ _ _ _ _ h)
set_option maxRecDepth 20000 in
theorem sw_Search_listSteps_83 {γ : xG1} {d b0 : Nat} {Q : xO → xS → Prop} {K42 : Int32 → Int32 → Int32 → xS → Prop} (hK42 : ∀ a1 a2 a3 σ, K42 a1 a2 a3 σ → xJ (SHP, γ) Y_Search_listSteps (d + 4) b0 42 [(0, .ref 30), (1, .int a1), (2, .int a2), (3, .int a3)] [] σ Q) : ∀ (n : Nat) (a1 : Int32) (a2 : Int32) (a3 : Int32) (a4 : Int32) (a5 : Int32) (σ : xS), w_Search_listSteps_83 Q K42 n a1 a2 a3 a4 a5 σ → xJ (SHP, γ) Y_Search_listSteps (d + 4) b0 83 [(0, .ref 30), (1, .int a1), (2, .int a2), (3, .int a3), (4, .int a4), (5, .int a5)] [] σ Q := by
  intro n
  induction n with
  | zero => intro a1 a2 a3 a4 a5 σ h; exact h.elim
  | succ n ih =>
    intro a1 a2 a3 a4 a5 σ h
    refine xJ.iload (o_Search_listSteps 45 rfl) rfl ?_
    refine xJ.iload (o_Search_listSteps 46 rfl) rfl ?_
    refine xJ.icmp_gt (tgt := 152) (o_Search_listSteps 47 rfl) (by decide) (fun z => ?_) (fun z => ?_)
    · replace h := h.1 z
      refine xJ.aload_n (o_Search_listSteps 80 rfl) rfl ?_
      refine xJ.getfield (o_Search_listSteps 81 rfl) f_Search_21 rfl rfl ?_
      refine xJ.iload_n (o_Search_listSteps 82 rfl) rfl ?_
      refine xJ.iload_n (o_Search_listSteps 83 rfl) rfl ?_
      refine xJ.iastore (o_Search_listSteps 84 rfl) rfl h.1 ?_
      replace h := h.2
      replace h := h _ rfl
      refine xJ.aload_n (o_Search_listSteps 85 rfl) rfl ?_
      refine xJ.getfield (o_Search_listSteps 86 rfl) f_Search_24 rfl rfl ?_
      refine xJ.iload_n (o_Search_listSteps 87 rfl) rfl ?_
      refine xJ.iload_n (o_Search_listSteps 88 rfl) rfl ?_
      refine xJ.iastore (o_Search_listSteps 89 rfl) rfl h.1 ?_
      replace h := h.2
      replace h := h _ rfl
      refine xJ.iincC (w := 1) (o_Search_listSteps 90 rfl) rfl (by decide) (by decide) ?_
      replace h := h _ rfl
      refine xJ.goto (tgt := 42) (o_Search_listSteps 91 rfl) (by decide) ?_
      exact xJ.lvs (by exact ⟨rfl, rfl, rfl, rfl, trivial⟩) (hK42 _ _ _ _ h)
    · replace h := h.2 z
      refine xJ.aload_n (o_Search_listSteps 48 rfl) rfl ?_
      refine xJ.getfield (o_Search_listSteps 49 rfl) f_Search_27 rfl rfl ?_
      refine xJ.iload (o_Search_listSteps 50 rfl) rfl ?_
      refine xJ.baload (o_Search_listSteps 51 rfl) rfl h.1 ?_
      replace h := h.2
      refine xJ.if_eq (tgt := 138) (o_Search_listSteps 52 rfl) (by decide) (fun z => ?_) (fun z => ?_)
      · replace h := h.1 z
        exact xJ.lvs (by exact ⟨rfl, rfl, rfl, rfl, rfl, rfl, trivial⟩) (sw_Search_listSteps_138 ih h)
      · replace h := h.2 z
        refine xJ.aload_n (o_Search_listSteps 53 rfl) rfl ?_
        refine xJ.getfield (o_Search_listSteps 54 rfl) f_Search_31 rfl rfl ?_
        refine xJ.iload (o_Search_listSteps 55 rfl) rfl ?_
        refine xJ.baload (o_Search_listSteps 56 rfl) rfl h.1 ?_
        replace h := h.2
        refine xJ.if_ne (tgt := 138) (o_Search_listSteps 57 rfl) (by decide) (fun z => ?_) (fun z => ?_)
        · replace h := h.1 z
          exact xJ.lvs (by exact ⟨rfl, rfl, rfl, rfl, rfl, rfl, trivial⟩) (sw_Search_listSteps_138 ih h)
        · replace h := h.2 z
          refine xJ.aload_n (o_Search_listSteps 58 rfl) rfl ?_
          refine xJ.getfield (o_Search_listSteps 59 rfl) f_Search_31 rfl rfl ?_
          refine xJ.iload (o_Search_listSteps 60 rfl) rfl ?_
          refine xJ.iconst (v := 1) (o_Search_listSteps 61 rfl) (by decide) ?_
          refine xJ.bastore (o_Search_listSteps 62 rfl) rfl h.1 ?_
          replace h := h.2
          replace h := h _ rfl
          refine xJ.aload_n (o_Search_listSteps 63 rfl) rfl ?_
          refine xJ.getfield (o_Search_listSteps 64 rfl) f_Search_18 rfl rfl ?_
          refine xJ.iload_n (o_Search_listSteps 65 rfl) rfl ?_
          refine xJ.iload (o_Search_listSteps 66 rfl) rfl ?_
          refine xJ.iastore (o_Search_listSteps 67 rfl) rfl h.1 ?_
          replace h := h.2
          replace h := h _ rfl
          refine xJ.iincC (w := 1) (o_Search_listSteps 68 rfl) rfl (by decide) (by decide) ?_
          replace h := h _ rfl
          refine xJ.aload_n (o_Search_listSteps 69 rfl) rfl ?_
          refine xJ.getfield (o_Search_listSteps 70 rfl) f_Search_56 rfl rfl ?_
          refine xJ.iload (o_Search_listSteps 71 rfl) rfl ?_
          refine xJ.callV (Y' := Y_Evaluator_workOut) (o_Search_listSteps 72 rfl) m_Search_169 y_Evaluator_workOut im_Evaluator_workOut se_Evaluator_workOut rfl rfl (s_Evaluator_workOut_40 h) rfl rfl (Nat.le_of_ble_eq_true rfl) (fun _ hx => by cases hx) (fun v u q => ?_) (fun n u q => q)
          obtain ⟨rfl, h⟩ := xqv_get q
          exact xJ.lvs (by exact ⟨rfl, rfl, rfl, rfl, rfl, rfl, trivial⟩) (sw_Search_listSteps_138 ih h)
set_option maxRecDepth 20000 in
theorem sw_Search_listSteps_42 {γ : xG1} {d b0 : Nat} {Q : xO → xS → Prop} : ∀ (n : Nat) (a1 : Int32) (a2 : Int32) (a3 : Int32) (σ : xS), w_Search_listSteps_42 Q n a1 a2 a3 σ → xJ (SHP, γ) Y_Search_listSteps (d + 4) b0 42 [(0, .ref 30), (1, .int a1), (2, .int a2), (3, .int a3)] [] σ Q := by
  intro n
  induction n with
  | zero => intro a1 a2 a3 σ h; exact h.elim
  | succ n ih =>
    intro a1 a2 a3 σ h
    refine xJ.iload_n (o_Search_listSteps 24 rfl) rfl ?_
    refine xJ.aload_n (o_Search_listSteps 25 rfl) rfl ?_
    refine xJ.getfield (o_Search_listSteps 26 rfl) f_Search_141 rfl rfl ?_
    refine xJ.icmp_ge (tgt := 172) (o_Search_listSteps 27 rfl) (by decide) (fun z => ?_) (fun z => ?_)
    · replace h := h.1 z
      exact xJ.return_ (o_Search_listSteps 92 rfl) rfl h
    · replace h := h.2 z
      refine xJ.aload_n (o_Search_listSteps 28 rfl) rfl ?_
      refine xJ.getfield (o_Search_listSteps 29 rfl) f_Search_15 rfl rfl ?_
      refine xJ.iload_n (o_Search_listSteps 30 rfl) rfl ?_
      refine xJ.iaload (o_Search_listSteps 31 rfl) rfl h.1 ?_
      replace h := h.2
      refine xJ.istore (o_Search_listSteps 32 rfl) (by decide) ?_
      replace h := h _ rfl
      refine xJ.aload_n (o_Search_listSteps 33 rfl) rfl ?_
      refine xJ.getfield (o_Search_listSteps 34 rfl) f_Search_50 rfl rfl ?_
      refine xJ.iload (o_Search_listSteps 35 rfl) rfl ?_
      refine xJ.aload_n (o_Search_listSteps 36 rfl) rfl ?_
      refine xJ.getfield (o_Search_listSteps 37 rfl) f_Search_27 rfl rfl ?_
      refine xJ.callV (Y' := Y_Terms_markCone) (o_Search_listSteps 38 rfl) m_Search_162 y_Terms_markCone im_Terms_markCone se_Terms_markCone rfl rfl (s_Terms_markCone_6_36 h) rfl rfl (Nat.le_of_ble_eq_true rfl) (fun _ hx => by cases hx) (fun v u q => ?_) (fun n u q => q)
      obtain ⟨rfl, h⟩ := xqv_get q
      refine xJ.aload_n (o_Search_listSteps 39 rfl) rfl ?_
      refine xJ.getfield (o_Search_listSteps 40 rfl) f_Search_50 rfl rfl ?_
      refine xJ.getfield (o_Search_listSteps 41 rfl) f_Search_166 rfl rfl ?_
      refine xJ.iload (o_Search_listSteps 42 rfl) rfl ?_
      refine xJ.iaload (o_Search_listSteps 43 rfl) rfl h.1 ?_
      replace h := h.2
      refine xJ.istore (o_Search_listSteps 44 rfl) (by decide) ?_
      replace h := h _ rfl
      obtain ⟨m, h⟩ := h
      exact xJ.lvs (by exact ⟨rfl, rfl, rfl, rfl, rfl, rfl, trivial⟩) (sw_Search_listSteps_83 ih m _ _ _ _ _ _ h)
set_option maxRecDepth 20000 in
theorem sw_Search_listSteps_2 {γ : xG1} {d b0 : Nat} {Q : xO → xS → Prop} : ∀ (n : Nat) (a1 : Int32) (a2 : Int32) (σ : xS), w_Search_listSteps_2 Q n a1 a2 σ → xJ (SHP, γ) Y_Search_listSteps (d + 4) b0 2 [(0, .ref 30), (1, .int a1), (2, .int a2)] [] σ Q := by
  intro n
  induction n with
  | zero => intro a1 a2 σ h; exact h.elim
  | succ n ih =>
    intro a1 a2 σ h
    refine xJ.iload_n (o_Search_listSteps 2 rfl) rfl ?_
    refine xJ.aload_n (o_Search_listSteps 3 rfl) rfl ?_
    refine xJ.getfield (o_Search_listSteps 4 rfl) f_Search_50 rfl rfl ?_
    refine xJ.getfield (o_Search_listSteps 5 rfl) f_Search_118 rfl rfl ?_
    refine xJ.icmp_ge (tgt := 26) (o_Search_listSteps 6 rfl) (by decide) (fun z => ?_) (fun z => ?_)
    · replace h := h.1 z
      refine xJ.aload_n (o_Search_listSteps 14 rfl) rfl ?_
      refine xJ.getfield (o_Search_listSteps 15 rfl) f_Search_56 rfl rfl ?_
      refine xJ.iload_n (o_Search_listSteps 16 rfl) rfl ?_
      refine xJ.aload_n (o_Search_listSteps 17 rfl) rfl ?_
      refine xJ.getfield (o_Search_listSteps 18 rfl) f_Search_80 rfl rfl ?_
      refine xJ.callV (Y' := Y_Evaluator_takeThings) (o_Search_listSteps 19 rfl) m_Search_159 y_Evaluator_takeThings im_Evaluator_takeThings se_Evaluator_takeThings rfl rfl (s_Evaluator_takeThings_40 h) rfl rfl (Nat.le_of_ble_eq_true rfl) (fun _ hx => by cases hx) (fun v u q => ?_) (fun n u q => q)
      obtain ⟨rfl, h⟩ := xqv_get q
      refine xJ.iconst (v := 0) (o_Search_listSteps 20 rfl) (by decide) ?_
      refine xJ.istore_n (o_Search_listSteps 21 rfl) (by decide) ?_
      refine xJ.iconst (v := 0) (o_Search_listSteps 22 rfl) (by decide) ?_
      refine xJ.istore_n (o_Search_listSteps 23 rfl) (by decide) ?_
      obtain ⟨m, h⟩ := h
      exact xJ.lvs (by exact ⟨rfl, rfl, rfl, rfl, trivial⟩) (sw_Search_listSteps_42 m _ _ _ _ h)
    · replace h := h.2 z
      refine xJ.aload_n (o_Search_listSteps 7 rfl) rfl ?_
      refine xJ.getfield (o_Search_listSteps 8 rfl) f_Search_31 rfl rfl ?_
      refine xJ.iload_n (o_Search_listSteps 9 rfl) rfl ?_
      refine xJ.iconst (v := 0) (o_Search_listSteps 10 rfl) (by decide) ?_
      refine xJ.bastore (o_Search_listSteps 11 rfl) rfl h.1 ?_
      replace h := h.2
      replace h := h _ rfl
      refine xJ.iincC (w := 1) (o_Search_listSteps 12 rfl) rfl (by decide) (by decide) ?_
      replace h := h _ rfl
      refine xJ.goto (tgt := 2) (o_Search_listSteps 13 rfl) (by decide) ?_
      exact xJ.lvs (by exact ⟨rfl, rfl, rfl, trivial⟩) (ih _ _ _ h)
set_option maxRecDepth 20000 in
theorem s_Search_listSteps {γ : xG1} {d : Nat} {Q : xO → xS → Prop} {σ : xS} {a1 : Int32} (h : wp_Search_listSteps Q σ a1) : xM (SHP, γ) Y_Search_listSteps (d + 4) [.ref 30, .int a1] σ Q := by
  refine xM.of (by decide) (Nat.le_of_ble_eq_true rfl) ?_
  refine xJ.iconst (v := 0) (o_Search_listSteps 0 rfl) (by decide) ?_
  refine xJ.istore_n (o_Search_listSteps 1 rfl) (by decide) ?_
  obtain ⟨m, h⟩ := h
  exact xJ.lvs (by exact ⟨rfl, rfl, rfl, trivial⟩) (sw_Search_listSteps_2 m _ _ _ h)
def wp_Search_addGoal (Q : xO → xS → Prop) (σ : xS) (a1 : Int32) (a2 : Int32) : Prop :=
  (vp_in a1 2000 ∧ wp_Words_trailingZeros (xqi (fun r2 u1 => ((¬ r2 = a2 → Q (.inl none) u1) ∧ (r2 = a2 → (((Int32.ofNat 501) ≤ (xi u1 30 7) → Q (.inl none) u1) ∧ (¬ (Int32.ofNat 501) ≤ (xi u1 30 7) → (vp_in (xi u1 30 7) 501 ∧ (∀ s3 : xS, s3 = xpi u1 32 (xi u1 30 7).toNatClampNeg a1 → (∀ s4 : xS, s4 = xpi s3 30 7 ((xi s3 30 7) + 1) → Q (.inl none) s4)))))))) (fun n u => Q (.inr n) u)) σ (xi σ 31 a1.toNatClampNeg))
set_option maxRecDepth 20000 in
theorem s_Search_addGoal {γ : xG1} {d : Nat} {Q : xO → xS → Prop} {σ : xS} {a1 : Int32} {a2 : Int32} (h : wp_Search_addGoal Q σ a1 a2) : xM (SHP, γ) Y_Search_addGoal (d + 2) [.ref 30, .int a1, .int a2] σ Q := by
  refine xM.of (by decide) (Nat.le_of_ble_eq_true rfl) ?_
  refine xJ.aload_n (o_Search_addGoal 0 rfl) rfl ?_
  refine xJ.getfield (o_Search_addGoal 1 rfl) f_Search_9 rfl rfl ?_
  refine xJ.iload_n (o_Search_addGoal 2 rfl) rfl ?_
  refine xJ.iaload (o_Search_addGoal 3 rfl) rfl h.1 ?_
  replace h := h.2
  refine xJ.callS (Y' := Y_Words_trailingZeros) (o_Search_addGoal 4 rfl) m_Search_154 y_Words_trailingZeros st_Words_trailingZeros (s_Words_trailingZeros h) rfl rfl (Nat.le_of_ble_eq_true rfl) (fun _ hx => by cases hx) (fun v u q => ?_) (fun n u q => q)
  obtain ⟨r, rfl, h⟩ := xqi_get q
  refine xJ.iload_n (o_Search_addGoal 5 rfl) rfl ?_
  refine xJ.icmp_ne (tgt := 45) (o_Search_addGoal 6 rfl) (by decide) (fun z => ?_) (fun z => ?_)
  · replace h := h.1 z
    exact xJ.return_ (o_Search_addGoal 25 rfl) rfl h
  · replace h := h.2 z
    refine xJ.aload_n (o_Search_addGoal 7 rfl) rfl ?_
    refine xJ.getfield (o_Search_addGoal 8 rfl) f_Search_141 rfl rfl ?_
    refine xJ.aload_n (o_Search_addGoal 9 rfl) rfl ?_
    refine xJ.getfield (o_Search_addGoal 10 rfl) f_Search_15 rfl rfl ?_
    refine xJ.alen (o_Search_addGoal 11 rfl) rfl ?_
    refine xJ.icmp_ge (tgt := 45) (o_Search_addGoal 12 rfl) (by decide) (fun z => ?_) (fun z => ?_)
    · replace h := h.1 z
      exact xJ.return_ (o_Search_addGoal 25 rfl) rfl h
    · replace h := h.2 z
      refine xJ.aload_n (o_Search_addGoal 13 rfl) rfl ?_
      refine xJ.getfield (o_Search_addGoal 14 rfl) f_Search_15 rfl rfl ?_
      refine xJ.aload_n (o_Search_addGoal 15 rfl) rfl ?_
      refine xJ.getfield (o_Search_addGoal 16 rfl) f_Search_141 rfl rfl ?_
      refine xJ.iload_n (o_Search_addGoal 17 rfl) rfl ?_
      refine xJ.iastore (o_Search_addGoal 18 rfl) rfl h.1 ?_
      replace h := h.2
      replace h := h _ rfl
      refine xJ.aload_n (o_Search_addGoal 19 rfl) rfl ?_
      refine xJ.dup (o_Search_addGoal 20 rfl) rfl ?_
      refine xJ.getfield (o_Search_addGoal 21 rfl) f_Search_141 rfl rfl ?_
      refine xJ.iconst (v := 1) (o_Search_addGoal 22 rfl) (by decide) ?_
      refine xJ.iadd (o_Search_addGoal 23 rfl) ?_
      refine xJ.putI (o_Search_addGoal 24 rfl) f_Search_141 rfl rfl rfl ?_
      replace h := h _ rfl
      exact xJ.return_ (o_Search_addGoal 25 rfl) rfl h
def w_Search_orderGoals_14 (Q : xO → xS → Prop) (K8 : Int32 → Int32 → xS → Prop) : Nat → Int32 → Int32 → Int32 → xS → Prop
  | 0 => fun _ _ _ _ => False
  | n + 1 => fun a1 a2 a3 σ =>
    (((xi σ 5 10) ≤ a3 → ((a1 = (-1) → (∀ x2 : Int32, x2 = a2 + (-1) → K8 a1 x2 σ)) ∧ (¬ a1 = (-1) → wp_Search_addGoal (xqv (fun u3 => (∀ x5 : Int32, x5 = a2 + (-1) → K8 a1 x5 u3)) (fun n u => Q (.inr n) u)) σ a1 a2))) ∧ (¬ (xi σ 5 10) ≤ a3 → (vp_in a3 500 ∧ wp_Search_addGoal (xqv (fun u6 => (∀ x8 : Int32, x8 = a3 + 1 → w_Search_orderGoals_14 Q K8 n a1 a2 x8 u6)) (fun n u => Q (.inr n) u)) σ (xi σ 22 a3.toNatClampNeg) a2)))
def w_Search_orderGoals_8 (Q : xO → xS → Prop) : Nat → Int32 → Int32 → xS → Prop
  | 0 => fun _ _ _ => False
  | n + 1 => fun a1 a2 σ =>
    ((a2 < 0 → Q (.inl none) σ) ∧ (¬ a2 < 0 → ∃ m, w_Search_orderGoals_14 Q (w_Search_orderGoals_8 Q n) m a1 a2 0 σ))
def wp_Search_orderGoals (Q : xO → xS → Prop) (σ : xS) (a1 : Int32) : Prop :=
  (∀ s1 : xS, s1 = xpi σ 30 7 0 → ∃ m, w_Search_orderGoals_8 Q m a1 32 s1)
set_option maxRecDepth 20000 in
theorem sw_Search_orderGoals_14 {γ : xG1} {d b0 : Nat} {Q : xO → xS → Prop} {K8 : Int32 → Int32 → xS → Prop} (hK8 : ∀ a1 a2 σ, K8 a1 a2 σ → xJ (SHP, γ) Y_Search_orderGoals (d + 3) b0 8 [(0, .ref 30), (1, .int a1), (2, .int a2)] [] σ Q) : ∀ (n : Nat) (a1 : Int32) (a2 : Int32) (a3 : Int32) (σ : xS), w_Search_orderGoals_14 Q K8 n a1 a2 a3 σ → xJ (SHP, γ) Y_Search_orderGoals (d + 3) b0 14 [(0, .ref 30), (1, .int a1), (2, .int a2), (3, .int a3)] [] σ Q := by
  intro n
  induction n with
  | zero => intro a1 a2 a3 σ h; exact h.elim
  | succ n ih =>
    intro a1 a2 a3 σ h
    refine xJ.iload_n (o_Search_orderGoals 9 rfl) rfl ?_
    refine xJ.aload_n (o_Search_orderGoals 10 rfl) rfl ?_
    refine xJ.getfield (o_Search_orderGoals 11 rfl) f_Search_40 rfl rfl ?_
    refine xJ.getfield (o_Search_orderGoals 12 rfl) f_Search_144 rfl rfl ?_
    refine xJ.icmp_ge (tgt := 45) (o_Search_orderGoals 13 rfl) (by decide) (fun z => ?_) (fun z => ?_)
    · replace h := h.1 z
      refine xJ.iload_n (o_Search_orderGoals 24 rfl) rfl ?_
      refine xJ.iconst (v := (-1)) (o_Search_orderGoals 25 rfl) (by decide) ?_
      refine xJ.icmp_eq (tgt := 56) (o_Search_orderGoals 26 rfl) (by decide) (fun z => ?_) (fun z => ?_)
      · replace h := h.1 z
        refine xJ.iincC (w := (-1)) (o_Search_orderGoals 31 rfl) rfl (by decide) (by decide) ?_
        replace h := h _ rfl
        refine xJ.goto (tgt := 8) (o_Search_orderGoals 32 rfl) (by decide) ?_
        exact xJ.lvs (by exact ⟨rfl, rfl, rfl, trivial⟩) (hK8 _ _ _ h)
      · replace h := h.2 z
        refine xJ.aload_n (o_Search_orderGoals 27 rfl) rfl ?_
        refine xJ.iload_n (o_Search_orderGoals 28 rfl) rfl ?_
        refine xJ.iload_n (o_Search_orderGoals 29 rfl) rfl ?_
        refine xJ.callV (Y' := Y_Search_addGoal) (o_Search_orderGoals 30 rfl) m_Search_150 y_Search_addGoal im_Search_addGoal se_Search_addGoal rfl rfl (s_Search_addGoal h) rfl rfl (Nat.le_of_ble_eq_true rfl) (fun _ hx => by cases hx) (fun v u q => ?_) (fun n u q => q)
        obtain ⟨rfl, h⟩ := xqv_get q
        refine xJ.iincC (w := (-1)) (o_Search_orderGoals 31 rfl) rfl (by decide) (by decide) ?_
        replace h := h _ rfl
        refine xJ.goto (tgt := 8) (o_Search_orderGoals 32 rfl) (by decide) ?_
        exact xJ.lvs (by exact ⟨rfl, rfl, rfl, trivial⟩) (hK8 _ _ _ h)
    · replace h := h.2 z
      refine xJ.aload_n (o_Search_orderGoals 14 rfl) rfl ?_
      refine xJ.aload_n (o_Search_orderGoals 15 rfl) rfl ?_
      refine xJ.getfield (o_Search_orderGoals 16 rfl) f_Search_40 rfl rfl ?_
      refine xJ.getfield (o_Search_orderGoals 17 rfl) f_Search_147 rfl rfl ?_
      refine xJ.iload_n (o_Search_orderGoals 18 rfl) rfl ?_
      refine xJ.iaload (o_Search_orderGoals 19 rfl) rfl h.1 ?_
      replace h := h.2
      refine xJ.iload_n (o_Search_orderGoals 20 rfl) rfl ?_
      refine xJ.callV (Y' := Y_Search_addGoal) (o_Search_orderGoals 21 rfl) m_Search_150 y_Search_addGoal im_Search_addGoal se_Search_addGoal rfl rfl (s_Search_addGoal h) rfl rfl (Nat.le_of_ble_eq_true rfl) (fun _ hx => by cases hx) (fun v u q => ?_) (fun n u q => q)
      obtain ⟨rfl, h⟩ := xqv_get q
      refine xJ.iincC (w := 1) (o_Search_orderGoals 22 rfl) rfl (by decide) (by decide) ?_
      replace h := h _ rfl
      refine xJ.goto (tgt := 14) (o_Search_orderGoals 23 rfl) (by decide) ?_
      exact xJ.lvs (by exact ⟨rfl, rfl, rfl, rfl, trivial⟩) (ih _ _ _ _ h)
set_option maxRecDepth 20000 in
theorem sw_Search_orderGoals_8 {γ : xG1} {d b0 : Nat} {Q : xO → xS → Prop} : ∀ (n : Nat) (a1 : Int32) (a2 : Int32) (σ : xS), w_Search_orderGoals_8 Q n a1 a2 σ → xJ (SHP, γ) Y_Search_orderGoals (d + 3) b0 8 [(0, .ref 30), (1, .int a1), (2, .int a2)] [] σ Q := by
  intro n
  induction n with
  | zero => intro a1 a2 σ h; exact h.elim
  | succ n ih =>
    intro a1 a2 σ h
    refine xJ.iload_n (o_Search_orderGoals 5 rfl) rfl ?_
    refine xJ.if_lt (tgt := 62) (o_Search_orderGoals 6 rfl) (by decide) (fun z => ?_) (fun z => ?_)
    · replace h := h.1 z
      exact xJ.return_ (o_Search_orderGoals 33 rfl) rfl h
    · replace h := h.2 z
      refine xJ.iconst (v := 0) (o_Search_orderGoals 7 rfl) (by decide) ?_
      refine xJ.istore_n (o_Search_orderGoals 8 rfl) (by decide) ?_
      obtain ⟨m, h⟩ := h
      exact xJ.lvs (by exact ⟨rfl, rfl, rfl, rfl, trivial⟩) (sw_Search_orderGoals_14 ih m _ _ _ _ h)
set_option maxRecDepth 20000 in
theorem s_Search_orderGoals {γ : xG1} {d : Nat} {Q : xO → xS → Prop} {σ : xS} {a1 : Int32} (h : wp_Search_orderGoals Q σ a1) : xM (SHP, γ) Y_Search_orderGoals (d + 3) [.ref 30, .int a1] σ Q := by
  refine xM.of (by decide) (Nat.le_of_ble_eq_true rfl) ?_
  refine xJ.aload_n (o_Search_orderGoals 0 rfl) rfl ?_
  refine xJ.iconst (v := 0) (o_Search_orderGoals 1 rfl) (by decide) ?_
  refine xJ.putI (o_Search_orderGoals 2 rfl) f_Search_141 rfl rfl rfl ?_
  replace h := h _ rfl
  refine xJ.bipush (v := 32) (o_Search_orderGoals 3 rfl) (by decide) ?_
  refine xJ.istore_n (o_Search_orderGoals 4 rfl) (by decide) ?_
  obtain ⟨m, h⟩ := h
  exact xJ.lvs (by exact ⟨rfl, rfl, rfl, trivial⟩) (sw_Search_orderGoals_8 m _ _ _ h)
def w_Search_findDependencies_71 (Q : xO → xS → Prop) (K2 : Int32 → xS → Prop) : Nat → Int32 → Int32 → Int32 → xS → Prop
  | 0 => fun _ _ _ _ => False
  | n + 1 => fun a1 a2 a3 σ =>
    (vp_in (a1 + 1) 2001 ∧ (((xi σ 9 (a1 + 1).toNatClampNeg) ≤ a3 → (vp_in a1 2000 ∧ (∀ s2 : xS, s2 = xpi σ 31 a1.toNatClampNeg a2 → (∀ x3 : Int32, x3 = a1 + 1 → K2 x3 s2)))) ∧ (¬ (xi σ 9 (a1 + 1).toNatClampNeg) ≤ a3 → (vp_in a3 80000 ∧ (vp_in (xi σ 10 a3.toNatClampNeg) 2000 ∧ (∀ x4 : Int32, x4 = (a2 ||| (xi σ 31 (xi σ 10 a3.toNatClampNeg).toNatClampNeg)) → (∀ x5 : Int32, x5 = a3 + 1 → w_Search_findDependencies_71 Q K2 n a1 x4 x5 σ)))))))
def w_Search_findDependencies_61 (Q : xO → xS → Prop) (K2 : Int32 → xS → Prop) (a1 : Int32) (a2 : Int32) (σ : xS) : Prop :=
  (vp_in a1 2001 ∧ (∀ x1 : Int32, x1 = (xi σ 9 a1.toNatClampNeg) → ∃ m, w_Search_findDependencies_71 Q K2 m a1 a2 x1 σ))
def w_Search_findDependencies_2 (Q : xO → xS → Prop) : Nat → Int32 → xS → Prop
  | 0 => fun _ _ => False
  | n + 1 => fun a1 σ =>
    (((xi σ 6 9) ≤ a1 → Q (.inl none) σ) ∧ (¬ (xi σ 6 9) ≤ a1 → (vp_in a1 2000 ∧ ((¬ (xi σ 7 a1.toNatClampNeg) = 47 → w_Search_findDependencies_61 Q (w_Search_findDependencies_2 Q n) a1 0 σ) ∧ ((xi σ 7 a1.toNatClampNeg) = 47 → (vp_in a1 2000 ∧ (vp_in a1 2000 ∧ wp_Book_shift (xqi (fun r7 u6 => (∀ x8 : Int32, x8 = (jishl ((xl σ 13 a1.toNatClampNeg).toInt32) r7) → w_Search_findDependencies_61 Q (w_Search_findDependencies_2 Q n) a1 x8 u6)) (fun n u => Q (.inr n) u)) σ (xi σ 11 a1.toNatClampNeg) (xi σ 30 15))))))))
def wp_Search_findDependencies (Q : xO → xS → Prop) (σ : xS)  : Prop :=
  ∃ m, w_Search_findDependencies_2 Q m 0 σ
set_option maxRecDepth 20000 in
theorem sw_Search_findDependencies_71 {γ : xG1} {d b0 : Nat} {Q : xO → xS → Prop} {K2 : Int32 → xS → Prop} (hK2 : ∀ a1 σ, K2 a1 σ → xJ (SHP, γ) Y_Search_findDependencies (d + 1) b0 2 [(0, .ref 30), (1, .int a1)] [] σ Q) : ∀ (n : Nat) (a1 : Int32) (a2 : Int32) (a3 : Int32) (σ : xS), w_Search_findDependencies_71 Q K2 n a1 a2 a3 σ → xJ (SHP, γ) Y_Search_findDependencies (d + 1) b0 71 [(0, .ref 30), (1, .int a1), (2, .int a2), (3, .int a3)] [] σ Q := by
  intro n
  induction n with
  | zero => intro a1 a2 a3 σ h; exact h.elim
  | succ n ih =>
    intro a1 a2 a3 σ h
    refine xJ.iload_n (o_Search_findDependencies 40 rfl) rfl ?_
    refine xJ.aload_n (o_Search_findDependencies 41 rfl) rfl ?_
    refine xJ.getfield (o_Search_findDependencies 42 rfl) f_Search_50 rfl rfl ?_
    refine xJ.getfield (o_Search_findDependencies 43 rfl) f_Search_135 rfl rfl ?_
    refine xJ.iload_n (o_Search_findDependencies 44 rfl) rfl ?_
    refine xJ.iconst (v := 1) (o_Search_findDependencies 45 rfl) (by decide) ?_
    refine xJ.iadd (o_Search_findDependencies 46 rfl) ?_
    refine xJ.iaload (o_Search_findDependencies 47 rfl) rfl h.1 ?_
    replace h := h.2
    refine xJ.icmp_ge (tgt := 109) (o_Search_findDependencies 48 rfl) (by decide) (fun z => ?_) (fun z => ?_)
    · replace h := h.1 z
      refine xJ.aload_n (o_Search_findDependencies 62 rfl) rfl ?_
      refine xJ.getfield (o_Search_findDependencies 63 rfl) f_Search_9 rfl rfl ?_
      refine xJ.iload_n (o_Search_findDependencies 64 rfl) rfl ?_
      refine xJ.iload_n (o_Search_findDependencies 65 rfl) rfl ?_
      refine xJ.iastore (o_Search_findDependencies 66 rfl) rfl h.1 ?_
      replace h := h.2
      replace h := h _ rfl
      refine xJ.iincC (w := 1) (o_Search_findDependencies 67 rfl) rfl (by decide) (by decide) ?_
      replace h := h _ rfl
      refine xJ.goto (tgt := 2) (o_Search_findDependencies 68 rfl) (by decide) ?_
      exact xJ.lvs (by exact ⟨rfl, rfl, trivial⟩) (hK2 _ _ h)
    · replace h := h.2 z
      refine xJ.iload_n (o_Search_findDependencies 49 rfl) rfl ?_
      refine xJ.aload_n (o_Search_findDependencies 50 rfl) rfl ?_
      refine xJ.getfield (o_Search_findDependencies 51 rfl) f_Search_9 rfl rfl ?_
      refine xJ.aload_n (o_Search_findDependencies 52 rfl) rfl ?_
      refine xJ.getfield (o_Search_findDependencies 53 rfl) f_Search_50 rfl rfl ?_
      refine xJ.getfield (o_Search_findDependencies 54 rfl) f_Search_138 rfl rfl ?_
      refine xJ.iload_n (o_Search_findDependencies 55 rfl) rfl ?_
      refine xJ.iaload (o_Search_findDependencies 56 rfl) rfl h.1 ?_
      replace h := h.2
      refine xJ.iaload (o_Search_findDependencies 57 rfl) rfl h.1 ?_
      replace h := h.2
      refine xJ.ior (o_Search_findDependencies 58 rfl) ?_
      refine xJ.istore_n (o_Search_findDependencies 59 rfl) (by decide) ?_
      replace h := h _ rfl
      refine xJ.iincC (w := 1) (o_Search_findDependencies 60 rfl) rfl (by decide) (by decide) ?_
      replace h := h _ rfl
      refine xJ.goto (tgt := 71) (o_Search_findDependencies 61 rfl) (by decide) ?_
      exact xJ.lvs (by exact ⟨rfl, rfl, rfl, rfl, trivial⟩) (ih _ _ _ _ h)
set_option maxRecDepth 20000 in
theorem sw_Search_findDependencies_61 {γ : xG1} {d b0 : Nat} {Q : xO → xS → Prop} {K2 : Int32 → xS → Prop} (hK2 : ∀ a1 σ, K2 a1 σ → xJ (SHP, γ) Y_Search_findDependencies (d + 1) b0 2 [(0, .ref 30), (1, .int a1)] [] σ Q) {a1 : Int32} {a2 : Int32} {σ : xS} (h : w_Search_findDependencies_61 Q K2 a1 a2 σ) : xJ (SHP, γ) Y_Search_findDependencies (d + 1) b0 61 [(0, .ref 30), (1, .int a1), (2, .int a2)] [] σ Q := by
  refine xJ.aload_n (o_Search_findDependencies 34 rfl) rfl ?_
  refine xJ.getfield (o_Search_findDependencies 35 rfl) f_Search_50 rfl rfl ?_
  refine xJ.getfield (o_Search_findDependencies 36 rfl) f_Search_135 rfl rfl ?_
  refine xJ.iload_n (o_Search_findDependencies 37 rfl) rfl ?_
  refine xJ.iaload (o_Search_findDependencies 38 rfl) rfl h.1 ?_
  replace h := h.2
  refine xJ.istore_n (o_Search_findDependencies 39 rfl) (by decide) ?_
  replace h := h _ rfl
  obtain ⟨m, h⟩ := h
  exact xJ.lvs (by exact ⟨rfl, rfl, rfl, rfl, trivial⟩) (sw_Search_findDependencies_71 hK2 m _ _ _ _ h)
set_option maxRecDepth 20000 in
theorem sw_Search_findDependencies_2 {γ : xG1} {d b0 : Nat} {Q : xO → xS → Prop} : ∀ (n : Nat) (a1 : Int32) (σ : xS), w_Search_findDependencies_2 Q n a1 σ → xJ (SHP, γ) Y_Search_findDependencies (d + 1) b0 2 [(0, .ref 30), (1, .int a1)] [] σ Q := by
  intro n
  induction n with
  | zero => intro a1 σ h; exact h.elim
  | succ n ih =>
    intro a1 σ h
    refine xJ.iload_n (o_Search_findDependencies 2 rfl) rfl ?_
    refine xJ.aload_n (o_Search_findDependencies 3 rfl) rfl ?_
    refine xJ.getfield (o_Search_findDependencies 4 rfl) f_Search_50 rfl rfl ?_
    refine xJ.getfield (o_Search_findDependencies 5 rfl) f_Search_118 rfl rfl ?_
    refine xJ.icmp_ge (tgt := 122) (o_Search_findDependencies 6 rfl) (by decide) (fun z => ?_) (fun z => ?_)
    · replace h := h.1 z
      exact xJ.return_ (o_Search_findDependencies 69 rfl) rfl h
    · replace h := h.2 z
      refine xJ.iconst (v := 0) (o_Search_findDependencies 7 rfl) (by decide) ?_
      refine xJ.istore_n (o_Search_findDependencies 8 rfl) (by decide) ?_
      refine xJ.aload_n (o_Search_findDependencies 9 rfl) rfl ?_
      refine xJ.getfield (o_Search_findDependencies 10 rfl) f_Search_50 rfl rfl ?_
      refine xJ.getfield (o_Search_findDependencies 11 rfl) f_Search_123 rfl rfl ?_
      refine xJ.iload_n (o_Search_findDependencies 12 rfl) rfl ?_
      refine xJ.iaload (o_Search_findDependencies 13 rfl) rfl h.1 ?_
      replace h := h.2
      refine xJ.bipush (v := 47) (o_Search_findDependencies 14 rfl) (by decide) ?_
      refine xJ.icmp_ne (tgt := 61) (o_Search_findDependencies 15 rfl) (by decide) (fun z => ?_) (fun z => ?_)
      · replace h := h.1 z
        exact xJ.lvs (by exact ⟨rfl, rfl, rfl, trivial⟩) (sw_Search_findDependencies_61 ih h)
      · replace h := h.2 z
        refine xJ.aload_n (o_Search_findDependencies 16 rfl) rfl ?_
        refine xJ.getfield (o_Search_findDependencies 17 rfl) f_Search_50 rfl rfl ?_
        refine xJ.getfield (o_Search_findDependencies 18 rfl) f_Search_126 rfl rfl ?_
        refine xJ.iload_n (o_Search_findDependencies 19 rfl) rfl ?_
        refine xJ.laload (o_Search_findDependencies 20 rfl) rfl h.1 ?_
        replace h := h.2
        refine xJ.l2i (o_Search_findDependencies 21 rfl) rfl ?_
        refine xJ.aload_n (o_Search_findDependencies 22 rfl) rfl ?_
        refine xJ.getfield (o_Search_findDependencies 23 rfl) f_Search_40 rfl rfl ?_
        refine xJ.aload_n (o_Search_findDependencies 24 rfl) rfl ?_
        refine xJ.getfield (o_Search_findDependencies 25 rfl) f_Search_50 rfl rfl ?_
        refine xJ.getfield (o_Search_findDependencies 26 rfl) f_Search_129 rfl rfl ?_
        refine xJ.iload_n (o_Search_findDependencies 27 rfl) rfl ?_
        refine xJ.iaload (o_Search_findDependencies 28 rfl) rfl h.1 ?_
        replace h := h.2
        refine xJ.aload_n (o_Search_findDependencies 29 rfl) rfl ?_
        refine xJ.getfield (o_Search_findDependencies 30 rfl) f_Search_80 rfl rfl ?_
        refine xJ.callV (Y' := Y_Book_shift) (o_Search_findDependencies 31 rfl) m_Search_132 y_Book_shift im_Book_shift se_Book_shift rfl rfl (s_Book_shift h) rfl rfl (Nat.le_of_ble_eq_true rfl) (fun _ hx => by cases hx) (fun v u q => ?_) (fun n u q => q)
        obtain ⟨r, rfl, h⟩ := xqi_get q
        refine xJ.ishl (o_Search_findDependencies 32 rfl) ?_
        refine xJ.istore_n (o_Search_findDependencies 33 rfl) (by decide) ?_
        replace h := h _ rfl
        exact xJ.lvs (by exact ⟨rfl, rfl, rfl, trivial⟩) (sw_Search_findDependencies_61 ih h)
set_option maxRecDepth 20000 in
theorem s_Search_findDependencies {γ : xG1} {d : Nat} {Q : xO → xS → Prop} {σ : xS}  (h : wp_Search_findDependencies Q σ ) : xM (SHP, γ) Y_Search_findDependencies (d + 1) [.ref 30] σ Q := by
  refine xM.of (by decide) (Nat.le_of_ble_eq_true rfl) ?_
  refine xJ.iconst (v := 0) (o_Search_findDependencies 0 rfl) (by decide) ?_
  refine xJ.istore_n (o_Search_findDependencies 1 rfl) (by decide) ?_
  obtain ⟨m, h⟩ := h
  exact xJ.lvs (by exact ⟨rfl, rfl, trivial⟩) (sw_Search_findDependencies_2 m _ _ h)
def w_Search_least_147 (Q : xO → xS → Prop) (K52 : Int32 → Int32 → xS → Prop) (a4 : Int32) (a5 : Int32) (a7 : Int32) (σ : xS) : Prop :=
  wp_Search_nextAfter (xqi (fun r16 u15 => (∀ x17 : Int32, x17 = a5 + 1 → K52 r16 x17 u15)) (fun n u => Q (.inr n) u)) σ a4 a7
def w_Search_least_52 (Q : xO → xS → Prop) : Nat → Int32 → Int32 → xS → Prop
  | 0 => fun _ _ _ => False
  | n + 1 => fun a4 a5 σ =>
    (((xi σ 30 16) < a5 → Q (.inl (some (.int (-1)))) σ) ∧ (¬ (xi σ 30 16) < a5 → ((a4 = (-1) → Q (.inl (some (.int (-1)))) σ) ∧ (¬ a4 = (-1) → wp_Search_falseGoal (xqi (fun r12 u11 => ((¬ r12 = (-1) → wp_Learner_explain (xqi (fun r14 u13 => ((r14 = (xi u13 30 16) → w_Search_least_147 Q (w_Search_least_52 Q n) a4 a5 r14 u13) ∧ (¬ r14 = (xi u13 30 16) → wp_Checker_followsFalse (xqi (fun r19 u18 => ((¬ r19 = 0 → w_Search_least_147 Q (w_Search_least_52 Q n) a4 a5 r14 u18) ∧ (r19 = 0 → (∀ s20 : xS, s20 = xpi u18 30 17 ((xi u18 30 17) + 1) → (∀ x21 : Int32, x21 = (xi s20 30 16) → w_Search_least_147 Q (w_Search_least_52 Q n) a4 a5 x21 s20))))) (fun n u => Q (.inr n) u)) u13 r12 r14 (a4 &&& r14) (xi u13 30 15)))) (fun n u => Q (.inr n) u)) u11 r12 (xi u11 30 15)) ∧ (r12 = (-1) → Q (.inl (some (.int a4))) u11))) (fun n u => Q (.inr n) u)) σ a4))))
def wp_Search_least (Q : xO → xS → Prop) (σ : xS) (a1 : Int32) (a2 : Int32) (a3 : Int32) : Prop :=
  (∀ s1 : xS, s1 = xpi σ 30 15 a2 → (∀ s2 : xS, s2 = xpi s1 30 16 ((jishl 1 (xi s1 30 15)) - 1) → ((a1 ≤ (xi s2 30 16) → wp_Search_findDependencies (xqv (fun u3 => wp_Search_orderGoals (xqv (fun u5 => wp_Search_listSteps (xqv (fun u7 => wp_Search_learnBound (xqv (fun u9 => ∃ m, w_Search_least_52 Q m a1 0 u9) (fun n u => Q (.inr n) u)) u7 a1) (fun n u => Q (.inr n) u)) u5 a1) (fun n u => Q (.inr n) u)) u3 a3) (fun n u => Q (.inr n) u)) s2 ) ∧ (¬ a1 ≤ (xi s2 30 16) → Q (.inl (some (.int (-1)))) s2))))
set_option maxRecDepth 20000 in
theorem sw_Search_least_147 {γ : xG1} {d b0 : Nat} {Q : xO → xS → Prop} {K52 : Int32 → Int32 → xS → Prop} (hK52 : ∀ a4 a5 σ, K52 a4 a5 σ → xJ (SHP, γ) Y_Search_least (d + 6) b0 52 [(0, .ref 30), (4, .int a4), (5, .int a5)] [] σ Q) {a4 : Int32} {a5 : Int32} {a7 : Int32} {σ : xS} (h : w_Search_least_147 Q K52 a4 a5 a7 σ) : xJ (SHP, γ) Y_Search_least (d + 6) b0 147 [(0, .ref 30), (4, .int a4), (5, .int a5), (7, .int a7)] [] σ Q := by
  refine xJ.aload_n (o_Search_least 79 rfl) rfl ?_
  refine xJ.iload (o_Search_least 80 rfl) rfl ?_
  refine xJ.iload (o_Search_least 81 rfl) rfl ?_
  refine xJ.callV (Y' := Y_Search_nextAfter) (o_Search_least 82 rfl) m_Search_115 y_Search_nextAfter im_Search_nextAfter se_Search_nextAfter rfl rfl (s_Search_nextAfter h) rfl rfl (Nat.le_of_ble_eq_true rfl) (fun _ hx => by cases hx) (fun v u q => ?_) (fun n u q => q)
  obtain ⟨r, rfl, h⟩ := xqi_get q
  refine xJ.istore (o_Search_least 83 rfl) (by decide) ?_
  refine xJ.iincC (w := 1) (o_Search_least 84 rfl) rfl (by decide) (by decide) ?_
  replace h := h _ rfl
  refine xJ.goto (tgt := 52) (o_Search_least 85 rfl) (by decide) ?_
  exact xJ.lvs (by exact ⟨rfl, rfl, rfl, trivial⟩) (hK52 _ _ _ h)
set_option maxRecDepth 20000 in
theorem sw_Search_least_52 {γ : xG1} {d b0 : Nat} {Q : xO → xS → Prop} : ∀ (n : Nat) (a4 : Int32) (a5 : Int32) (σ : xS), w_Search_least_52 Q n a4 a5 σ → xJ (SHP, γ) Y_Search_least (d + 6) b0 52 [(0, .ref 30), (4, .int a4), (5, .int a5)] [] σ Q := by
  intro n
  induction n with
  | zero => intro a4 a5 σ h; exact h.elim
  | succ n ih =>
    intro a4 a5 σ h
    refine xJ.iload (o_Search_least 32 rfl) rfl ?_
    refine xJ.aload_n (o_Search_least 33 rfl) rfl ?_
    refine xJ.getfield (o_Search_least 34 rfl) f_Search_84 rfl rfl ?_
    refine xJ.icmp_gt (tgt := 163) (o_Search_least 35 rfl) (by decide) (fun z => ?_) (fun z => ?_)
    · replace h := h.1 z
      refine xJ.iconst (v := (-1)) (o_Search_least 86 rfl) (by decide) ?_
      exact xJ.ireturn (o_Search_least 87 rfl) rfl h
    · replace h := h.2 z
      refine xJ.iload (o_Search_least 36 rfl) rfl ?_
      refine xJ.iconst (v := (-1)) (o_Search_least 37 rfl) (by decide) ?_
      refine xJ.icmp_eq (tgt := 163) (o_Search_least 38 rfl) (by decide) (fun z => ?_) (fun z => ?_)
      · replace h := h.1 z
        refine xJ.iconst (v := (-1)) (o_Search_least 86 rfl) (by decide) ?_
        exact xJ.ireturn (o_Search_least 87 rfl) rfl h
      · replace h := h.2 z
        refine xJ.aload_n (o_Search_least 39 rfl) rfl ?_
        refine xJ.iload (o_Search_least 40 rfl) rfl ?_
        refine xJ.callV (Y' := Y_Search_falseGoal) (o_Search_least 41 rfl) m_Search_100 y_Search_falseGoal im_Search_falseGoal se_Search_falseGoal rfl rfl (s_Search_falseGoal h) rfl rfl (Nat.le_of_ble_eq_true rfl) (fun _ hx => by cases hx) (fun v u q => ?_) (fun n u q => q)
        obtain ⟨r, rfl, h⟩ := xqi_get q
        refine xJ.istore (o_Search_least 42 rfl) (by decide) ?_
        refine xJ.iload (o_Search_least 43 rfl) rfl ?_
        refine xJ.iconst (v := (-1)) (o_Search_least 44 rfl) (by decide) ?_
        refine xJ.icmp_ne (tgt := 84) (o_Search_least 45 rfl) (by decide) (fun z => ?_) (fun z => ?_)
        · replace h := h.1 z
          refine xJ.aload_n (o_Search_least 48 rfl) rfl ?_
          refine xJ.getfield (o_Search_least 49 rfl) f_Search_69 rfl rfl ?_
          refine xJ.iload (o_Search_least 50 rfl) rfl ?_
          refine xJ.aload_n (o_Search_least 51 rfl) rfl ?_
          refine xJ.getfield (o_Search_least 52 rfl) f_Search_80 rfl rfl ?_
          refine xJ.callV (Y' := Y_Learner_explain) (o_Search_least 53 rfl) m_Search_104 y_Learner_explain im_Learner_explain se_Learner_explain rfl rfl (s_Learner_explain h) rfl rfl (Nat.le_of_ble_eq_true rfl) (fun _ hx => by cases hx) (fun v u q => ?_) (fun n u q => q)
          obtain ⟨r, rfl, h⟩ := xqi_get q
          refine xJ.istore (o_Search_least 54 rfl) (by decide) ?_
          refine xJ.iload (o_Search_least 55 rfl) rfl ?_
          refine xJ.aload_n (o_Search_least 56 rfl) rfl ?_
          refine xJ.getfield (o_Search_least 57 rfl) f_Search_84 rfl rfl ?_
          refine xJ.icmp_eq (tgt := 147) (o_Search_least 58 rfl) (by decide) (fun z => ?_) (fun z => ?_)
          · replace h := h.1 z
            exact xJ.lvs (by exact ⟨rfl, rfl, rfl, rfl, trivial⟩) (sw_Search_least_147 ih h)
          · replace h := h.2 z
            refine xJ.aload_n (o_Search_least 59 rfl) rfl ?_
            refine xJ.getfield (o_Search_least 60 rfl) f_Search_76 rfl rfl ?_
            refine xJ.iload (o_Search_least 61 rfl) rfl ?_
            refine xJ.iload (o_Search_least 62 rfl) rfl ?_
            refine xJ.iload (o_Search_least 63 rfl) rfl ?_
            refine xJ.iload (o_Search_least 64 rfl) rfl ?_
            refine xJ.iand (o_Search_least 65 rfl) ?_
            refine xJ.aload_n (o_Search_least 66 rfl) rfl ?_
            refine xJ.getfield (o_Search_least 67 rfl) f_Search_80 rfl rfl ?_
            refine xJ.callV (Y' := Y_Checker_followsFalse) (o_Search_least 68 rfl) m_Search_108 y_Checker_followsFalse im_Checker_followsFalse se_Checker_followsFalse rfl rfl (s_Checker_followsFalse h) rfl rfl (Nat.le_of_ble_eq_true rfl) (fun _ hx => by cases hx) (fun v u q => ?_) (fun n u q => q)
            obtain ⟨r, rfl, h⟩ := xqi_get q
            refine xJ.if_ne (tgt := 147) (o_Search_least 69 rfl) (by decide) (fun z => ?_) (fun z => ?_)
            · replace h := h.1 z
              exact xJ.lvs (by exact ⟨rfl, rfl, rfl, rfl, trivial⟩) (sw_Search_least_147 ih h)
            · replace h := h.2 z
              refine xJ.aload_n (o_Search_least 70 rfl) rfl ?_
              refine xJ.dup (o_Search_least 71 rfl) rfl ?_
              refine xJ.getfield (o_Search_least 72 rfl) f_Search_112 rfl rfl ?_
              refine xJ.iconst (v := 1) (o_Search_least 73 rfl) (by decide) ?_
              refine xJ.iadd (o_Search_least 74 rfl) ?_
              refine xJ.putI (o_Search_least 75 rfl) f_Search_112 rfl rfl rfl ?_
              replace h := h _ rfl
              refine xJ.aload_n (o_Search_least 76 rfl) rfl ?_
              refine xJ.getfield (o_Search_least 77 rfl) f_Search_84 rfl rfl ?_
              refine xJ.istore (o_Search_least 78 rfl) (by decide) ?_
              replace h := h _ rfl
              exact xJ.lvs (by exact ⟨rfl, rfl, rfl, rfl, trivial⟩) (sw_Search_least_147 ih h)
        · replace h := h.2 z
          refine xJ.iload (o_Search_least 46 rfl) rfl ?_
          exact xJ.ireturn (o_Search_least 47 rfl) rfl h
set_option maxRecDepth 20000 in
theorem s_Search_least {γ : xG1} {d : Nat} {Q : xO → xS → Prop} {σ : xS} {a1 : Int32} {a2 : Int32} {a3 : Int32} (h : wp_Search_least Q σ a1 a2 a3) : xM (SHP, γ) Y_Search_least (d + 6) [.ref 30, .int a1, .int a2, .int a3] σ Q := by
  refine xM.of (by decide) (Nat.le_of_ble_eq_true rfl) ?_
  refine xJ.aload_n (o_Search_least 0 rfl) rfl ?_
  refine xJ.iload_n (o_Search_least 1 rfl) rfl ?_
  refine xJ.putI (o_Search_least 2 rfl) f_Search_80 rfl rfl rfl ?_
  replace h := h _ rfl
  refine xJ.aload_n (o_Search_least 3 rfl) rfl ?_
  refine xJ.iconst (v := 1) (o_Search_least 4 rfl) (by decide) ?_
  refine xJ.aload_n (o_Search_least 5 rfl) rfl ?_
  refine xJ.getfield (o_Search_least 6 rfl) f_Search_80 rfl rfl ?_
  refine xJ.ishl (o_Search_least 7 rfl) ?_
  refine xJ.iconst (v := 1) (o_Search_least 8 rfl) (by decide) ?_
  refine xJ.isub (o_Search_least 9 rfl) ?_
  refine xJ.putI (o_Search_least 10 rfl) f_Search_84 rfl rfl rfl ?_
  replace h := h _ rfl
  refine xJ.iload_n (o_Search_least 11 rfl) rfl ?_
  refine xJ.aload_n (o_Search_least 12 rfl) rfl ?_
  refine xJ.getfield (o_Search_least 13 rfl) f_Search_84 rfl rfl ?_
  refine xJ.icmp_le (tgt := 27) (o_Search_least 14 rfl) (by decide) (fun z => ?_) (fun z => ?_)
  · replace h := h.1 z
    refine xJ.aload_n (o_Search_least 17 rfl) rfl ?_
    refine xJ.callV (Y' := Y_Search_findDependencies) (o_Search_least 18 rfl) m_Search_87 y_Search_findDependencies im_Search_findDependencies se_Search_findDependencies rfl rfl (s_Search_findDependencies h) rfl rfl (Nat.le_of_ble_eq_true rfl) (fun _ hx => by cases hx) (fun v u q => ?_) (fun n u q => q)
    obtain ⟨rfl, h⟩ := xqv_get q
    refine xJ.aload_n (o_Search_least 19 rfl) rfl ?_
    refine xJ.iload_n (o_Search_least 20 rfl) rfl ?_
    refine xJ.callV (Y' := Y_Search_orderGoals) (o_Search_least 21 rfl) m_Search_90 y_Search_orderGoals im_Search_orderGoals se_Search_orderGoals rfl rfl (s_Search_orderGoals h) rfl rfl (Nat.le_of_ble_eq_true rfl) (fun _ hx => by cases hx) (fun v u q => ?_) (fun n u q => q)
    obtain ⟨rfl, h⟩ := xqv_get q
    refine xJ.aload_n (o_Search_least 22 rfl) rfl ?_
    refine xJ.iload_n (o_Search_least 23 rfl) rfl ?_
    refine xJ.callV (Y' := Y_Search_listSteps) (o_Search_least 24 rfl) m_Search_94 y_Search_listSteps im_Search_listSteps se_Search_listSteps rfl rfl (s_Search_listSteps h) rfl rfl (Nat.le_of_ble_eq_true rfl) (fun _ hx => by cases hx) (fun v u q => ?_) (fun n u q => q)
    obtain ⟨rfl, h⟩ := xqv_get q
    refine xJ.aload_n (o_Search_least 25 rfl) rfl ?_
    refine xJ.iload_n (o_Search_least 26 rfl) rfl ?_
    refine xJ.callV (Y' := Y_Search_learnBound) (o_Search_least 27 rfl) m_Search_97 y_Search_learnBound im_Search_learnBound se_Search_learnBound rfl rfl (s_Search_learnBound h) rfl rfl (Nat.le_of_ble_eq_true rfl) (fun _ hx => by cases hx) (fun v u q => ?_) (fun n u q => q)
    obtain ⟨rfl, h⟩ := xqv_get q
    refine xJ.iload_n (o_Search_least 28 rfl) rfl ?_
    refine xJ.istore (o_Search_least 29 rfl) (by decide) ?_
    refine xJ.iconst (v := 0) (o_Search_least 30 rfl) (by decide) ?_
    refine xJ.istore (o_Search_least 31 rfl) (by decide) ?_
    obtain ⟨m, h⟩ := h
    exact xJ.lvs (by exact ⟨rfl, rfl, rfl, trivial⟩) (sw_Search_least_52 m _ _ _ h)
  · replace h := h.2 z
    refine xJ.iconst (v := (-1)) (o_Search_least 15 rfl) (by decide) ?_
    exact xJ.ireturn (o_Search_least 16 rfl) rfl h
