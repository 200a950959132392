def wp_VectorSolverModel_thrown (Q : xO → xS → Prop) (σ : xS)  : Prop :=
  Q (.inl (some (.int (xi σ 50 1)))) σ
set_option maxRecDepth 20000 in
theorem s_VectorSolverModel_thrown {γ : xG1} {d : Nat} {Q : xO → xS → Prop} {σ : xS}  (h : wp_VectorSolverModel_thrown Q σ ) : xM (SHP, γ) Y_VectorSolverModel_thrown (d + 0) [.ref 50] σ Q := by
  refine xM.of (by decide) (Nat.le_of_ble_eq_true rfl) ?_
  refine xJ.aload_n (o_VectorSolverModel_thrown 0 rfl) rfl ?_
  refine xJ.getfield (o_VectorSolverModel_thrown 1 rfl) f_VectorSolverModel_126 rfl rfl ?_
  exact xJ.ireturn (o_VectorSolverModel_thrown 2 rfl) rfl h
def wp_VectorSolverModel_lay0 (Q : xO → xS → Prop) (σ : xS) (a1 : Int32) : Prop :=
  (vp_in (xi σ 50 3) 65536 ∧ (∀ s1 : xS, s1 = xpi σ 51 (xi σ 50 3).toNatClampNeg (vp_nar .byte ((jishr a1 24).toInt8.toInt32)) → (vp_in ((xi s1 50 3) + 1) 65536 ∧ (∀ s2 : xS, s2 = xpi s1 51 ((xi s1 50 3) + 1).toNatClampNeg (vp_nar .byte ((jishr a1 16).toInt8.toInt32)) → (vp_in ((xi s2 50 3) + 2) 65536 ∧ (∀ s3 : xS, s3 = xpi s2 51 ((xi s2 50 3) + 2).toNatClampNeg (vp_nar .byte ((jishr a1 8).toInt8.toInt32)) → (vp_in ((xi s3 50 3) + 3) 65536 ∧ (∀ s4 : xS, s4 = xpi s3 51 ((xi s3 50 3) + 3).toNatClampNeg (vp_nar .byte a1.toInt8.toInt32) → (∀ s5 : xS, s5 = xpi s4 50 3 ((xi s4 50 3) + 4) → Q (.inl none) s5)))))))))
set_option maxRecDepth 20000 in
theorem s_VectorSolverModel_lay0 {γ : xG1} {d : Nat} {Q : xO → xS → Prop} {σ : xS} {a1 : Int32} (h : wp_VectorSolverModel_lay0 Q σ a1) : xM (SHP, γ) Y_VectorSolverModel_lay0 (d + 0) [.ref 50, .int a1] σ Q := by
  refine xM.of (by decide) (Nat.le_of_ble_eq_true rfl) ?_
  refine xJ.aload_n (o_VectorSolverModel_lay0 0 rfl) rfl ?_
  refine xJ.getfield (o_VectorSolverModel_lay0 1 rfl) f_VectorSolverModel_16 rfl rfl ?_
  refine xJ.aload_n (o_VectorSolverModel_lay0 2 rfl) rfl ?_
  refine xJ.getfield (o_VectorSolverModel_lay0 3 rfl) f_VectorSolverModel_129 rfl rfl ?_
  refine xJ.iload_n (o_VectorSolverModel_lay0 4 rfl) rfl ?_
  refine xJ.bipush (v := 24) (o_VectorSolverModel_lay0 5 rfl) (by decide) ?_
  refine xJ.ishr (o_VectorSolverModel_lay0 6 rfl) ?_
  refine xJ.i2b (o_VectorSolverModel_lay0 7 rfl) rfl ?_
  refine xJ.bastore (o_VectorSolverModel_lay0 8 rfl) rfl h.1 ?_
  replace h := h.2
  replace h := h _ rfl
  refine xJ.aload_n (o_VectorSolverModel_lay0 9 rfl) rfl ?_
  refine xJ.getfield (o_VectorSolverModel_lay0 10 rfl) f_VectorSolverModel_16 rfl rfl ?_
  refine xJ.aload_n (o_VectorSolverModel_lay0 11 rfl) rfl ?_
  refine xJ.getfield (o_VectorSolverModel_lay0 12 rfl) f_VectorSolverModel_129 rfl rfl ?_
  refine xJ.iconst (v := 1) (o_VectorSolverModel_lay0 13 rfl) (by decide) ?_
  refine xJ.iadd (o_VectorSolverModel_lay0 14 rfl) ?_
  refine xJ.iload_n (o_VectorSolverModel_lay0 15 rfl) rfl ?_
  refine xJ.bipush (v := 16) (o_VectorSolverModel_lay0 16 rfl) (by decide) ?_
  refine xJ.ishr (o_VectorSolverModel_lay0 17 rfl) ?_
  refine xJ.i2b (o_VectorSolverModel_lay0 18 rfl) rfl ?_
  refine xJ.bastore (o_VectorSolverModel_lay0 19 rfl) rfl h.1 ?_
  replace h := h.2
  replace h := h _ rfl
  refine xJ.aload_n (o_VectorSolverModel_lay0 20 rfl) rfl ?_
  refine xJ.getfield (o_VectorSolverModel_lay0 21 rfl) f_VectorSolverModel_16 rfl rfl ?_
  refine xJ.aload_n (o_VectorSolverModel_lay0 22 rfl) rfl ?_
  refine xJ.getfield (o_VectorSolverModel_lay0 23 rfl) f_VectorSolverModel_129 rfl rfl ?_
  refine xJ.iconst (v := 2) (o_VectorSolverModel_lay0 24 rfl) (by decide) ?_
  refine xJ.iadd (o_VectorSolverModel_lay0 25 rfl) ?_
  refine xJ.iload_n (o_VectorSolverModel_lay0 26 rfl) rfl ?_
  refine xJ.bipush (v := 8) (o_VectorSolverModel_lay0 27 rfl) (by decide) ?_
  refine xJ.ishr (o_VectorSolverModel_lay0 28 rfl) ?_
  refine xJ.i2b (o_VectorSolverModel_lay0 29 rfl) rfl ?_
  refine xJ.bastore (o_VectorSolverModel_lay0 30 rfl) rfl h.1 ?_
  replace h := h.2
  replace h := h _ rfl
  refine xJ.aload_n (o_VectorSolverModel_lay0 31 rfl) rfl ?_
  refine xJ.getfield (o_VectorSolverModel_lay0 32 rfl) f_VectorSolverModel_16 rfl rfl ?_
  refine xJ.aload_n (o_VectorSolverModel_lay0 33 rfl) rfl ?_
  refine xJ.getfield (o_VectorSolverModel_lay0 34 rfl) f_VectorSolverModel_129 rfl rfl ?_
  refine xJ.iconst (v := 3) (o_VectorSolverModel_lay0 35 rfl) (by decide) ?_
  refine xJ.iadd (o_VectorSolverModel_lay0 36 rfl) ?_
  refine xJ.iload_n (o_VectorSolverModel_lay0 37 rfl) rfl ?_
  refine xJ.i2b (o_VectorSolverModel_lay0 38 rfl) rfl ?_
  refine xJ.bastore (o_VectorSolverModel_lay0 39 rfl) rfl h.1 ?_
  replace h := h.2
  replace h := h _ rfl
  refine xJ.aload_n (o_VectorSolverModel_lay0 40 rfl) rfl ?_
  refine xJ.dup (o_VectorSolverModel_lay0 41 rfl) rfl ?_
  refine xJ.getfield (o_VectorSolverModel_lay0 42 rfl) f_VectorSolverModel_129 rfl rfl ?_
  refine xJ.iconst (v := 4) (o_VectorSolverModel_lay0 43 rfl) (by decide) ?_
  refine xJ.iadd (o_VectorSolverModel_lay0 44 rfl) ?_
  refine xJ.putI (o_VectorSolverModel_lay0 45 rfl) f_VectorSolverModel_129 rfl rfl rfl ?_
  replace h := h _ rfl
  exact xJ.return_ (o_VectorSolverModel_lay0 46 rfl) rfl h
def w_VectorSolverModel_feed_18 (Q : xO → xS → Prop) (a1 : Int32) (a2 : Int32) (a3 : Int32) (a4 : Int32) (a5 : Int32) (t1 : Int32) (σ : xS) : Prop :=
  (∀ s1 : xS, s1 = xpi σ 50 1 t1 → (((xi s1 50 1) ≤ 0 → wp_VectorSolverModel_lay0 (xqv (fun u2 => wp_VectorSolverModel_lay0 (xqv (fun u4 => wp_VectorSolverModel_lay0 (xqv (fun u6 => wp_VectorSolverModel_lay0 (xqv (fun u8 => wp_VectorSolverModel_lay0 (xqv (fun u10 => Q (.inl (some (.int (xi u10 50 3)))) u10) (fun n u => Q (.inr n) u)) u8 a5) (fun n u => Q (.inr n) u)) u6 a4) (fun n u => Q (.inr n) u)) u4 a3) (fun n u => Q (.inr n) u)) u2 a2) (fun n u => Q (.inr n) u)) s1 a1) ∧ (¬ (xi s1 50 1) ≤ 0 → Q (.inl (some (.int 0))) s1)))
def wp_VectorSolverModel_feed (Q : xO → xS → Prop) (σ : xS) (a1 : Int32) (a2 : Int32) (a3 : Int32) (a4 : Int32) (a5 : Int32) : Prop :=
  ((((xi σ 50 3) + 20) ≤ 65536 → w_VectorSolverModel_feed_18 Q a1 a2 a3 a4 a5 0 σ) ∧ (¬ ((xi σ 50 3) + 20) ≤ 65536 → w_VectorSolverModel_feed_18 Q a1 a2 a3 a4 a5 1 σ))
set_option maxRecDepth 20000 in
theorem sw_VectorSolverModel_feed_18 {γ : xG1} {d b0 : Nat} {Q : xO → xS → Prop} {a1 : Int32} {a2 : Int32} {a3 : Int32} {a4 : Int32} {a5 : Int32} {t1 : Int32} {σ : xS} (h : w_VectorSolverModel_feed_18 Q a1 a2 a3 a4 a5 t1 σ) : xJ (SHP, γ) Y_VectorSolverModel_feed (d + 1) b0 18 [(0, .ref 50), (1, .int a1), (2, .int a2), (3, .int a3), (4, .int a4), (5, .int a5)] [.int t1, .ref 50] σ Q := by
  refine xJ.putI (o_VectorSolverModel_feed 10 rfl) f_VectorSolverModel_126 rfl rfl rfl ?_
  replace h := h _ rfl
  refine xJ.aload_n (o_VectorSolverModel_feed 11 rfl) rfl ?_
  refine xJ.getfield (o_VectorSolverModel_feed 12 rfl) f_VectorSolverModel_126 rfl rfl ?_
  refine xJ.if_le (tgt := 30) (o_VectorSolverModel_feed 13 rfl) (by decide) (fun z => ?_) (fun z => ?_)
  · replace h := h.1 z
    refine xJ.aload_n (o_VectorSolverModel_feed 16 rfl) rfl ?_
    refine xJ.iload_n (o_VectorSolverModel_feed 17 rfl) rfl ?_
    refine xJ.callV (Y' := Y_VectorSolverModel_lay0) (o_VectorSolverModel_feed 18 rfl) m_VectorSolverModel_132 y_VectorSolverModel_lay0 im_VectorSolverModel_lay0 se_VectorSolverModel_lay0 rfl rfl (s_VectorSolverModel_lay0 h) rfl rfl (Nat.le_of_ble_eq_true rfl) (fun _ hx => by cases hx) (fun v u q => ?_) (fun n u q => q)
    obtain ⟨rfl, h⟩ := xqv_get q
    refine xJ.aload_n (o_VectorSolverModel_feed 19 rfl) rfl ?_
    refine xJ.iload_n (o_VectorSolverModel_feed 20 rfl) rfl ?_
    refine xJ.callV (Y' := Y_VectorSolverModel_lay0) (o_VectorSolverModel_feed 21 rfl) m_VectorSolverModel_132 y_VectorSolverModel_lay0 im_VectorSolverModel_lay0 se_VectorSolverModel_lay0 rfl rfl (s_VectorSolverModel_lay0 h) rfl rfl (Nat.le_of_ble_eq_true rfl) (fun _ hx => by cases hx) (fun v u q => ?_) (fun n u q => q)
    obtain ⟨rfl, h⟩ := xqv_get q
    refine xJ.aload_n (o_VectorSolverModel_feed 22 rfl) rfl ?_
    refine xJ.iload_n (o_VectorSolverModel_feed 23 rfl) rfl ?_
    refine xJ.callV (Y' := Y_VectorSolverModel_lay0) (o_VectorSolverModel_feed 24 rfl) m_VectorSolverModel_132 y_VectorSolverModel_lay0 im_VectorSolverModel_lay0 se_VectorSolverModel_lay0 rfl rfl (s_VectorSolverModel_lay0 h) rfl rfl (Nat.le_of_ble_eq_true rfl) (fun _ hx => by cases hx) (fun v u q => ?_) (fun n u q => q)
    obtain ⟨rfl, h⟩ := xqv_get q
    refine xJ.aload_n (o_VectorSolverModel_feed 25 rfl) rfl ?_
    refine xJ.iload (o_VectorSolverModel_feed 26 rfl) rfl ?_
    refine xJ.callV (Y' := Y_VectorSolverModel_lay0) (o_VectorSolverModel_feed 27 rfl) m_VectorSolverModel_132 y_VectorSolverModel_lay0 im_VectorSolverModel_lay0 se_VectorSolverModel_lay0 rfl rfl (s_VectorSolverModel_lay0 h) rfl rfl (Nat.le_of_ble_eq_true rfl) (fun _ hx => by cases hx) (fun v u q => ?_) (fun n u q => q)
    obtain ⟨rfl, h⟩ := xqv_get q
    refine xJ.aload_n (o_VectorSolverModel_feed 28 rfl) rfl ?_
    refine xJ.iload (o_VectorSolverModel_feed 29 rfl) rfl ?_
    refine xJ.callV (Y' := Y_VectorSolverModel_lay0) (o_VectorSolverModel_feed 30 rfl) m_VectorSolverModel_132 y_VectorSolverModel_lay0 im_VectorSolverModel_lay0 se_VectorSolverModel_lay0 rfl rfl (s_VectorSolverModel_lay0 h) rfl rfl (Nat.le_of_ble_eq_true rfl) (fun _ hx => by cases hx) (fun v u q => ?_) (fun n u q => q)
    obtain ⟨rfl, h⟩ := xqv_get q
    refine xJ.aload_n (o_VectorSolverModel_feed 31 rfl) rfl ?_
    refine xJ.getfield (o_VectorSolverModel_feed 32 rfl) f_VectorSolverModel_129 rfl rfl ?_
    exact xJ.ireturn (o_VectorSolverModel_feed 33 rfl) rfl h
  · replace h := h.2 z
    refine xJ.iconst (v := 0) (o_VectorSolverModel_feed 14 rfl) (by decide) ?_
    exact xJ.ireturn (o_VectorSolverModel_feed 15 rfl) rfl h
set_option maxRecDepth 20000 in
theorem s_VectorSolverModel_feed {γ : xG1} {d : Nat} {Q : xO → xS → Prop} {σ : xS} {a1 : Int32} {a2 : Int32} {a3 : Int32} {a4 : Int32} {a5 : Int32} (h : wp_VectorSolverModel_feed Q σ a1 a2 a3 a4 a5) : xM (SHP, γ) Y_VectorSolverModel_feed (d + 1) [.ref 50, .int a1, .int a2, .int a3, .int a4, .int a5] σ Q := by
  refine xM.of (by decide) (Nat.le_of_ble_eq_true rfl) ?_
  refine xJ.aload_n (o_VectorSolverModel_feed 0 rfl) rfl ?_
  refine xJ.aload_n (o_VectorSolverModel_feed 1 rfl) rfl ?_
  refine xJ.getfield (o_VectorSolverModel_feed 2 rfl) f_VectorSolverModel_129 rfl rfl ?_
  refine xJ.bipush (v := 20) (o_VectorSolverModel_feed 3 rfl) (by decide) ?_
  refine xJ.iadd (o_VectorSolverModel_feed 4 rfl) ?_
  refine xJ.ldc (v := 65536) (o_VectorSolverModel_feed 5 rfl) k_VectorSolverModel_15 ?_
  refine xJ.icmp_le (tgt := 17) (o_VectorSolverModel_feed 6 rfl) (by decide) (fun z => ?_) (fun z => ?_)
  · replace h := h.1 z
    refine xJ.iconst (v := 0) (o_VectorSolverModel_feed 9 rfl) (by decide) ?_
    exact xJ.lvs (by exact ⟨rfl, rfl, rfl, rfl, rfl, rfl, trivial⟩) (sw_VectorSolverModel_feed_18 h)
  · replace h := h.2 z
    refine xJ.iconst (v := 1) (o_VectorSolverModel_feed 7 rfl) (by decide) ?_
    refine xJ.goto (tgt := 18) (o_VectorSolverModel_feed 8 rfl) (by decide) ?_
    exact xJ.lvs (by exact ⟨rfl, rfl, rfl, rfl, rfl, rfl, trivial⟩) (sw_VectorSolverModel_feed_18 h)
def w_VectorSolverModel_trim_24 (Q : xO → xS → Prop) (a1 : Int32) (t1 : Int32) (σ : xS) : Prop :=
  (∀ s1 : xS, s1 = xpi σ 50 1 t1 → (((xi s1 50 1) ≤ 0 → (∀ s2 : xS, s2 = xpi s1 50 3 ((xi s1 50 3) - a1) → Q (.inl (some (.int (xi s2 50 3)))) s2)) ∧ (¬ (xi s1 50 1) ≤ 0 → Q (.inl (some (.int 0))) s1)))
def w_VectorSolverModel_trim_19 (Q : xO → xS → Prop) (a1 : Int32) (σ : xS) : Prop :=
  w_VectorSolverModel_trim_24 Q a1 1 σ
def wp_VectorSolverModel_trim (Q : xO → xS → Prop) (σ : xS) (a1 : Int32) : Prop :=
  ((a1 < 0 → w_VectorSolverModel_trim_19 Q a1 σ) ∧ (¬ a1 < 0 → ((20 < a1 → w_VectorSolverModel_trim_19 Q a1 σ) ∧ (¬ 20 < a1 → ((a1 ≤ (xi σ 50 3) → w_VectorSolverModel_trim_24 Q a1 0 σ) ∧ (¬ a1 ≤ (xi σ 50 3) → w_VectorSolverModel_trim_19 Q a1 σ))))))
set_option maxRecDepth 20000 in
theorem sw_VectorSolverModel_trim_24 {γ : xG1} {d b0 : Nat} {Q : xO → xS → Prop} {a1 : Int32} {t1 : Int32} {σ : xS} (h : w_VectorSolverModel_trim_24 Q a1 t1 σ) : xJ (SHP, γ) Y_VectorSolverModel_trim (d + 0) b0 24 [(0, .ref 50), (1, .int a1)] [.int t1, .ref 50] σ Q := by
  refine xJ.putI (o_VectorSolverModel_trim 13 rfl) f_VectorSolverModel_126 rfl rfl rfl ?_
  replace h := h _ rfl
  refine xJ.aload_n (o_VectorSolverModel_trim 14 rfl) rfl ?_
  refine xJ.getfield (o_VectorSolverModel_trim 15 rfl) f_VectorSolverModel_126 rfl rfl ?_
  refine xJ.if_le (tgt := 36) (o_VectorSolverModel_trim 16 rfl) (by decide) (fun z => ?_) (fun z => ?_)
  · replace h := h.1 z
    refine xJ.aload_n (o_VectorSolverModel_trim 19 rfl) rfl ?_
    refine xJ.dup (o_VectorSolverModel_trim 20 rfl) rfl ?_
    refine xJ.getfield (o_VectorSolverModel_trim 21 rfl) f_VectorSolverModel_129 rfl rfl ?_
    refine xJ.iload_n (o_VectorSolverModel_trim 22 rfl) rfl ?_
    refine xJ.isub (o_VectorSolverModel_trim 23 rfl) ?_
    refine xJ.putI (o_VectorSolverModel_trim 24 rfl) f_VectorSolverModel_129 rfl rfl rfl ?_
    replace h := h _ rfl
    refine xJ.aload_n (o_VectorSolverModel_trim 25 rfl) rfl ?_
    refine xJ.getfield (o_VectorSolverModel_trim 26 rfl) f_VectorSolverModel_129 rfl rfl ?_
    exact xJ.ireturn (o_VectorSolverModel_trim 27 rfl) rfl h
  · replace h := h.2 z
    refine xJ.iconst (v := 0) (o_VectorSolverModel_trim 17 rfl) (by decide) ?_
    exact xJ.ireturn (o_VectorSolverModel_trim 18 rfl) rfl h
set_option maxRecDepth 20000 in
theorem sw_VectorSolverModel_trim_19 {γ : xG1} {d b0 : Nat} {Q : xO → xS → Prop} {a1 : Int32} {σ : xS} (h : w_VectorSolverModel_trim_19 Q a1 σ) : xJ (SHP, γ) Y_VectorSolverModel_trim (d + 0) b0 19 [(0, .ref 50), (1, .int a1)] [.ref 50] σ Q := by
  refine xJ.iconst (v := 1) (o_VectorSolverModel_trim 10 rfl) (by decide) ?_
  refine xJ.goto (tgt := 24) (o_VectorSolverModel_trim 11 rfl) (by decide) ?_
  exact xJ.lvs (by exact ⟨rfl, rfl, trivial⟩) (sw_VectorSolverModel_trim_24 h)
set_option maxRecDepth 20000 in
theorem s_VectorSolverModel_trim {γ : xG1} {d : Nat} {Q : xO → xS → Prop} {σ : xS} {a1 : Int32} (h : wp_VectorSolverModel_trim Q σ a1) : xM (SHP, γ) Y_VectorSolverModel_trim (d + 0) [.ref 50, .int a1] σ Q := by
  refine xM.of (by decide) (Nat.le_of_ble_eq_true rfl) ?_
  refine xJ.aload_n (o_VectorSolverModel_trim 0 rfl) rfl ?_
  refine xJ.iload_n (o_VectorSolverModel_trim 1 rfl) rfl ?_
  refine xJ.if_lt (tgt := 19) (o_VectorSolverModel_trim 2 rfl) (by decide) (fun z => ?_) (fun z => ?_)
  · replace h := h.1 z
    exact xJ.lvs (by exact ⟨rfl, rfl, trivial⟩) (sw_VectorSolverModel_trim_19 h)
  · replace h := h.2 z
    refine xJ.iload_n (o_VectorSolverModel_trim 3 rfl) rfl ?_
    refine xJ.bipush (v := 20) (o_VectorSolverModel_trim 4 rfl) (by decide) ?_
    refine xJ.icmp_gt (tgt := 19) (o_VectorSolverModel_trim 5 rfl) (by decide) (fun z => ?_) (fun z => ?_)
    · replace h := h.1 z
      exact xJ.lvs (by exact ⟨rfl, rfl, trivial⟩) (sw_VectorSolverModel_trim_19 h)
    · replace h := h.2 z
      refine xJ.iload_n (o_VectorSolverModel_trim 6 rfl) rfl ?_
      refine xJ.aload_n (o_VectorSolverModel_trim 7 rfl) rfl ?_
      refine xJ.getfield (o_VectorSolverModel_trim 8 rfl) f_VectorSolverModel_129 rfl rfl ?_
      refine xJ.icmp_le (tgt := 23) (o_VectorSolverModel_trim 9 rfl) (by decide) (fun z => ?_) (fun z => ?_)
      · replace h := h.1 z
        refine xJ.iconst (v := 0) (o_VectorSolverModel_trim 12 rfl) (by decide) ?_
        exact xJ.lvs (by exact ⟨rfl, rfl, trivial⟩) (sw_VectorSolverModel_trim_24 h)
      · replace h := h.2 z
        exact xJ.lvs (by exact ⟨rfl, rfl, trivial⟩) (sw_VectorSolverModel_trim_19 h)
def w_VectorSolverModel_fault_15 (Q : xO → xS → Prop) (a1 : Int32) (t1 : Int32) (σ : xS) : Prop :=
  (∀ s1 : xS, s1 = xpi σ 50 1 t1 → (((xi s1 50 1) ≤ 0 → ((¬ a1 = 0 → Q (.inl (some (.int (xi s1 50 5)))) s1) ∧ (a1 = 0 → Q (.inl (some (.int (xi s1 50 4)))) s1))) ∧ (¬ (xi s1 50 1) ≤ 0 → Q (.inl (some (.int 0))) s1)))
def w_VectorSolverModel_fault_10 (Q : xO → xS → Prop) (a1 : Int32) (σ : xS) : Prop :=
  w_VectorSolverModel_fault_15 Q a1 0 σ
def wp_VectorSolverModel_fault (Q : xO → xS → Prop) (σ : xS) (a1 : Int32) : Prop :=
  ((a1 = 0 → w_VectorSolverModel_fault_10 Q a1 σ) ∧ (¬ a1 = 0 → ((¬ a1 = 1 → w_VectorSolverModel_fault_15 Q a1 1 σ) ∧ (a1 = 1 → w_VectorSolverModel_fault_10 Q a1 σ))))
set_option maxRecDepth 20000 in
theorem sw_VectorSolverModel_fault_15 {γ : xG1} {d b0 : Nat} {Q : xO → xS → Prop} {a1 : Int32} {t1 : Int32} {σ : xS} (h : w_VectorSolverModel_fault_15 Q a1 t1 σ) : xJ (SHP, γ) Y_VectorSolverModel_fault (d + 0) b0 15 [(0, .ref 50), (1, .int a1)] [.int t1, .ref 50] σ Q := by
  refine xJ.putI (o_VectorSolverModel_fault 9 rfl) f_VectorSolverModel_126 rfl rfl rfl ?_
  replace h := h _ rfl
  refine xJ.aload_n (o_VectorSolverModel_fault 10 rfl) rfl ?_
  refine xJ.getfield (o_VectorSolverModel_fault 11 rfl) f_VectorSolverModel_126 rfl rfl ?_
  refine xJ.if_le (tgt := 29) (o_VectorSolverModel_fault 12 rfl) (by decide) (fun z => ?_) (fun z => ?_)
  · replace h := h.1 z
    refine xJ.iload_n (o_VectorSolverModel_fault 15 rfl) rfl ?_
    refine xJ.if_ne (tgt := 40) (o_VectorSolverModel_fault 16 rfl) (by decide) (fun z => ?_) (fun z => ?_)
    · replace h := h.1 z
      refine xJ.aload_n (o_VectorSolverModel_fault 20 rfl) rfl ?_
      refine xJ.getfield (o_VectorSolverModel_fault 21 rfl) f_VectorSolverModel_20 rfl rfl ?_
      exact xJ.ireturn (o_VectorSolverModel_fault 22 rfl) rfl h
    · replace h := h.2 z
      refine xJ.aload_n (o_VectorSolverModel_fault 17 rfl) rfl ?_
      refine xJ.getfield (o_VectorSolverModel_fault 18 rfl) f_VectorSolverModel_166 rfl rfl ?_
      refine xJ.goto (tgt := 44) (o_VectorSolverModel_fault 19 rfl) (by decide) ?_
      exact xJ.ireturn (o_VectorSolverModel_fault 22 rfl) rfl h
  · replace h := h.2 z
    refine xJ.iconst (v := 0) (o_VectorSolverModel_fault 13 rfl) (by decide) ?_
    refine xJ.goto (tgt := 44) (o_VectorSolverModel_fault 14 rfl) (by decide) ?_
    exact xJ.ireturn (o_VectorSolverModel_fault 22 rfl) rfl h
set_option maxRecDepth 20000 in
theorem sw_VectorSolverModel_fault_10 {γ : xG1} {d b0 : Nat} {Q : xO → xS → Prop} {a1 : Int32} {σ : xS} (h : w_VectorSolverModel_fault_10 Q a1 σ) : xJ (SHP, γ) Y_VectorSolverModel_fault (d + 0) b0 10 [(0, .ref 50), (1, .int a1)] [.ref 50] σ Q := by
  refine xJ.iconst (v := 0) (o_VectorSolverModel_fault 6 rfl) (by decide) ?_
  refine xJ.goto (tgt := 15) (o_VectorSolverModel_fault 7 rfl) (by decide) ?_
  exact xJ.lvs (by exact ⟨rfl, rfl, trivial⟩) (sw_VectorSolverModel_fault_15 h)
set_option maxRecDepth 20000 in
theorem s_VectorSolverModel_fault {γ : xG1} {d : Nat} {Q : xO → xS → Prop} {σ : xS} {a1 : Int32} (h : wp_VectorSolverModel_fault Q σ a1) : xM (SHP, γ) Y_VectorSolverModel_fault (d + 0) [.ref 50, .int a1] σ Q := by
  refine xM.of (by decide) (Nat.le_of_ble_eq_true rfl) ?_
  refine xJ.aload_n (o_VectorSolverModel_fault 0 rfl) rfl ?_
  refine xJ.iload_n (o_VectorSolverModel_fault 1 rfl) rfl ?_
  refine xJ.if_eq (tgt := 10) (o_VectorSolverModel_fault 2 rfl) (by decide) (fun z => ?_) (fun z => ?_)
  · replace h := h.1 z
    exact xJ.lvs (by exact ⟨rfl, rfl, trivial⟩) (sw_VectorSolverModel_fault_10 h)
  · replace h := h.2 z
    refine xJ.iload_n (o_VectorSolverModel_fault 3 rfl) rfl ?_
    refine xJ.iconst (v := 1) (o_VectorSolverModel_fault 4 rfl) (by decide) ?_
    refine xJ.icmp_ne (tgt := 14) (o_VectorSolverModel_fault 5 rfl) (by decide) (fun z => ?_) (fun z => ?_)
    · replace h := h.1 z
      refine xJ.iconst (v := 1) (o_VectorSolverModel_fault 8 rfl) (by decide) ?_
      exact xJ.lvs (by exact ⟨rfl, rfl, trivial⟩) (sw_VectorSolverModel_fault_15 h)
    · replace h := h.2 z
      exact xJ.lvs (by exact ⟨rfl, rfl, trivial⟩) (sw_VectorSolverModel_fault_10 h)
def wp_VectorSolverModel_missed (Q : xO → xS → Prop) (σ : xS)  : Prop :=
  (∀ s1 : xS, s1 = xpi σ 50 1 0 → Q (.inl (some (.int 0))) s1)
set_option maxRecDepth 20000 in
theorem s_VectorSolverModel_missed {γ : xG1} {d : Nat} {Q : xO → xS → Prop} {σ : xS}  (h : wp_VectorSolverModel_missed Q σ ) : xM (SHP, γ) Y_VectorSolverModel_missed (d + 0) [.ref 50] σ Q := by
  refine xM.of (by decide) (Nat.le_of_ble_eq_true rfl) ?_
  refine xJ.aload_n (o_VectorSolverModel_missed 0 rfl) rfl ?_
  refine xJ.iconst (v := 0) (o_VectorSolverModel_missed 1 rfl) (by decide) ?_
  refine xJ.putI (o_VectorSolverModel_missed 2 rfl) f_VectorSolverModel_126 rfl rfl rfl ?_
  replace h := h _ rfl
  refine xJ.iconst (v := 0) (o_VectorSolverModel_missed 3 rfl) (by decide) ?_
  exact xJ.ireturn (o_VectorSolverModel_missed 4 rfl) rfl h
def wp_VectorSolverModel_refused (Q : xO → xS → Prop) (σ : xS)  : Prop :=
  (∀ s1 : xS, s1 = xpi σ 50 1 0 → Q (.inl (some (.int 0))) s1)
set_option maxRecDepth 20000 in
theorem s_VectorSolverModel_refused {γ : xG1} {d : Nat} {Q : xO → xS → Prop} {σ : xS}  (h : wp_VectorSolverModel_refused Q σ ) : xM (SHP, γ) Y_VectorSolverModel_refused (d + 0) [.ref 50] σ Q := by
  refine xM.of (by decide) (Nat.le_of_ble_eq_true rfl) ?_
  refine xJ.aload_n (o_VectorSolverModel_refused 0 rfl) rfl ?_
  refine xJ.iconst (v := 0) (o_VectorSolverModel_refused 1 rfl) (by decide) ?_
  refine xJ.putI (o_VectorSolverModel_refused 2 rfl) f_VectorSolverModel_126 rfl rfl rfl ?_
  replace h := h _ rfl
  refine xJ.iconst (v := 0) (o_VectorSolverModel_refused 3 rfl) (by decide) ?_
  exact xJ.ireturn (o_VectorSolverModel_refused 4 rfl) rfl h
def w_VectorSolverModel_thing_27 (Q : xO → xS → Prop) (a1 : Int32) (a2 : Int32) (t1 : Int32) (σ : xS) : Prop :=
  (∀ s1 : xS, s1 = xpi σ 50 1 t1 → (((xi s1 50 1) ≤ 0 → (vp_in a1 2000 ∧ (∀ x2 : Int32, x2 = (xi s1 80 a1.toNatClampNeg) → ((¬ a2 = 0 → ((¬ a2 = 1 → ((¬ a2 = 2 → (vp_in x2 2000 ∧ Q (.inl (some (.int (xi s1 63 x2.toNatClampNeg)))) s1)) ∧ (a2 = 2 → (vp_in x2 2000 ∧ Q (.inl (some (.int (xi s1 57 x2.toNatClampNeg)))) s1)))) ∧ (a2 = 1 → (vp_in x2 2000 ∧ Q (.inl (some (.int (xi s1 58 x2.toNatClampNeg)))) s1)))) ∧ (a2 = 0 → (vp_in x2 2000 ∧ (((xi s1 57 x2.toNatClampNeg) ≤ 0 → (vp_in x2 2000 ∧ (((xi s1 58 x2.toNatClampNeg) ≤ 0 → Q (.inl (some (.int 0))) s1) ∧ (¬ (xi s1 58 x2.toNatClampNeg) ≤ 0 → Q (.inl (some (.int 1))) s1)))) ∧ (¬ (xi s1 57 x2.toNatClampNeg) ≤ 0 → Q (.inl (some (.int 2))) s1)))))))) ∧ (¬ (xi s1 50 1) ≤ 0 → Q (.inl (some (.int 0))) s1)))
def w_VectorSolverModel_thing_26 (Q : xO → xS → Prop) (a1 : Int32) (a2 : Int32) (σ : xS) : Prop :=
  w_VectorSolverModel_thing_27 Q a1 a2 1 σ
def wp_VectorSolverModel_thing (Q : xO → xS → Prop) (σ : xS) (a1 : Int32) (a2 : Int32) : Prop :=
  ((a1 < 0 → w_VectorSolverModel_thing_26 Q a1 a2 σ) ∧ (¬ a1 < 0 → (((xi σ 50 42) ≤ a1 → w_VectorSolverModel_thing_26 Q a1 a2 σ) ∧ (¬ (xi σ 50 42) ≤ a1 → ((a2 < 0 → w_VectorSolverModel_thing_26 Q a1 a2 σ) ∧ (¬ a2 < 0 → ((3 < a2 → w_VectorSolverModel_thing_26 Q a1 a2 σ) ∧ (¬ 3 < a2 → w_VectorSolverModel_thing_27 Q a1 a2 0 σ))))))))
set_option maxRecDepth 20000 in
theorem sw_VectorSolverModel_thing_27 {γ : xG1} {d b0 : Nat} {Q : xO → xS → Prop} {a1 : Int32} {a2 : Int32} {t1 : Int32} {σ : xS} (h : w_VectorSolverModel_thing_27 Q a1 a2 t1 σ) : xJ (SHP, γ) Y_VectorSolverModel_thing (d + 0) b0 27 [(0, .ref 50), (1, .int a1), (2, .int a2)] [.int t1, .ref 50] σ Q := by
  refine xJ.putI (o_VectorSolverModel_thing 15 rfl) f_VectorSolverModel_126 rfl rfl rfl ?_
  replace h := h _ rfl
  refine xJ.aload_n (o_VectorSolverModel_thing 16 rfl) rfl ?_
  refine xJ.getfield (o_VectorSolverModel_thing 17 rfl) f_VectorSolverModel_126 rfl rfl ?_
  refine xJ.if_le (tgt := 39) (o_VectorSolverModel_thing 18 rfl) (by decide) (fun z => ?_) (fun z => ?_)
  · replace h := h.1 z
    refine xJ.aload_n (o_VectorSolverModel_thing 21 rfl) rfl ?_
    refine xJ.getfield (o_VectorSolverModel_thing 22 rfl) f_VectorSolverModel_112 rfl rfl ?_
    refine xJ.iload_n (o_VectorSolverModel_thing 23 rfl) rfl ?_
    refine xJ.iaload (o_VectorSolverModel_thing 24 rfl) rfl h.1 ?_
    replace h := h.2
    refine xJ.istore_n (o_VectorSolverModel_thing 25 rfl) (by decide) ?_
    replace h := h _ rfl
    refine xJ.iload_n (o_VectorSolverModel_thing 26 rfl) rfl ?_
    refine xJ.if_ne (tgt := 80) (o_VectorSolverModel_thing 27 rfl) (by decide) (fun z => ?_) (fun z => ?_)
    · replace h := h.1 z
      refine xJ.iload_n (o_VectorSolverModel_thing 44 rfl) rfl ?_
      refine xJ.iconst (v := 1) (o_VectorSolverModel_thing 45 rfl) (by decide) ?_
      refine xJ.icmp_ne (tgt := 94) (o_VectorSolverModel_thing 46 rfl) (by decide) (fun z => ?_) (fun z => ?_)
      · replace h := h.1 z
        refine xJ.iload_n (o_VectorSolverModel_thing 52 rfl) rfl ?_
        refine xJ.iconst (v := 2) (o_VectorSolverModel_thing 53 rfl) (by decide) ?_
        refine xJ.icmp_ne (tgt := 108) (o_VectorSolverModel_thing 54 rfl) (by decide) (fun z => ?_) (fun z => ?_)
        · replace h := h.1 z
          refine xJ.aload_n (o_VectorSolverModel_thing 60 rfl) rfl ?_
          refine xJ.getfield (o_VectorSolverModel_thing 61 rfl) f_VectorSolverModel_59 rfl rfl ?_
          refine xJ.iload_n (o_VectorSolverModel_thing 62 rfl) rfl ?_
          refine xJ.iaload (o_VectorSolverModel_thing 63 rfl) rfl h.1 ?_
          replace h := h.2
          exact xJ.ireturn (o_VectorSolverModel_thing 64 rfl) rfl h
        · replace h := h.2 z
          refine xJ.aload_n (o_VectorSolverModel_thing 55 rfl) rfl ?_
          refine xJ.getfield (o_VectorSolverModel_thing 56 rfl) f_VectorSolverModel_41 rfl rfl ?_
          refine xJ.iload_n (o_VectorSolverModel_thing 57 rfl) rfl ?_
          refine xJ.iaload (o_VectorSolverModel_thing 58 rfl) rfl h.1 ?_
          replace h := h.2
          refine xJ.goto (tgt := 114) (o_VectorSolverModel_thing 59 rfl) (by decide) ?_
          exact xJ.ireturn (o_VectorSolverModel_thing 64 rfl) rfl h
      · replace h := h.2 z
        refine xJ.aload_n (o_VectorSolverModel_thing 47 rfl) rfl ?_
        refine xJ.getfield (o_VectorSolverModel_thing 48 rfl) f_VectorSolverModel_44 rfl rfl ?_
        refine xJ.iload_n (o_VectorSolverModel_thing 49 rfl) rfl ?_
        refine xJ.iaload (o_VectorSolverModel_thing 50 rfl) rfl h.1 ?_
        replace h := h.2
        refine xJ.goto (tgt := 114) (o_VectorSolverModel_thing 51 rfl) (by decide) ?_
        exact xJ.ireturn (o_VectorSolverModel_thing 64 rfl) rfl h
    · replace h := h.2 z
      refine xJ.aload_n (o_VectorSolverModel_thing 28 rfl) rfl ?_
      refine xJ.getfield (o_VectorSolverModel_thing 29 rfl) f_VectorSolverModel_41 rfl rfl ?_
      refine xJ.iload_n (o_VectorSolverModel_thing 30 rfl) rfl ?_
      refine xJ.iaload (o_VectorSolverModel_thing 31 rfl) rfl h.1 ?_
      replace h := h.2
      refine xJ.if_le (tgt := 63) (o_VectorSolverModel_thing 32 rfl) (by decide) (fun z => ?_) (fun z => ?_)
      · replace h := h.1 z
        refine xJ.aload_n (o_VectorSolverModel_thing 35 rfl) rfl ?_
        refine xJ.getfield (o_VectorSolverModel_thing 36 rfl) f_VectorSolverModel_44 rfl rfl ?_
        refine xJ.iload_n (o_VectorSolverModel_thing 37 rfl) rfl ?_
        refine xJ.iaload (o_VectorSolverModel_thing 38 rfl) rfl h.1 ?_
        replace h := h.2
        refine xJ.if_le (tgt := 76) (o_VectorSolverModel_thing 39 rfl) (by decide) (fun z => ?_) (fun z => ?_)
        · replace h := h.1 z
          refine xJ.iconst (v := 0) (o_VectorSolverModel_thing 42 rfl) (by decide) ?_
          refine xJ.goto (tgt := 114) (o_VectorSolverModel_thing 43 rfl) (by decide) ?_
          exact xJ.ireturn (o_VectorSolverModel_thing 64 rfl) rfl h
        · replace h := h.2 z
          refine xJ.iconst (v := 1) (o_VectorSolverModel_thing 40 rfl) (by decide) ?_
          refine xJ.goto (tgt := 114) (o_VectorSolverModel_thing 41 rfl) (by decide) ?_
          exact xJ.ireturn (o_VectorSolverModel_thing 64 rfl) rfl h
      · replace h := h.2 z
        refine xJ.iconst (v := 2) (o_VectorSolverModel_thing 33 rfl) (by decide) ?_
        refine xJ.goto (tgt := 114) (o_VectorSolverModel_thing 34 rfl) (by decide) ?_
        exact xJ.ireturn (o_VectorSolverModel_thing 64 rfl) rfl h
  · replace h := h.2 z
    refine xJ.iconst (v := 0) (o_VectorSolverModel_thing 19 rfl) (by decide) ?_
    exact xJ.ireturn (o_VectorSolverModel_thing 20 rfl) rfl h
set_option maxRecDepth 20000 in
theorem sw_VectorSolverModel_thing_26 {γ : xG1} {d b0 : Nat} {Q : xO → xS → Prop} {a1 : Int32} {a2 : Int32} {σ : xS} (h : w_VectorSolverModel_thing_26 Q a1 a2 σ) : xJ (SHP, γ) Y_VectorSolverModel_thing (d + 0) b0 26 [(0, .ref 50), (1, .int a1), (2, .int a2)] [.ref 50] σ Q := by
  refine xJ.iconst (v := 1) (o_VectorSolverModel_thing 14 rfl) (by decide) ?_
  exact xJ.lvs (by exact ⟨rfl, rfl, rfl, trivial⟩) (sw_VectorSolverModel_thing_27 h)
set_option maxRecDepth 20000 in
theorem s_VectorSolverModel_thing {γ : xG1} {d : Nat} {Q : xO → xS → Prop} {σ : xS} {a1 : Int32} {a2 : Int32} (h : wp_VectorSolverModel_thing Q σ a1 a2) : xM (SHP, γ) Y_VectorSolverModel_thing (d + 0) [.ref 50, .int a1, .int a2] σ Q := by
  refine xM.of (by decide) (Nat.le_of_ble_eq_true rfl) ?_
  refine xJ.aload_n (o_VectorSolverModel_thing 0 rfl) rfl ?_
  refine xJ.iload_n (o_VectorSolverModel_thing 1 rfl) rfl ?_
  refine xJ.if_lt (tgt := 26) (o_VectorSolverModel_thing 2 rfl) (by decide) (fun z => ?_) (fun z => ?_)
  · replace h := h.1 z
    exact xJ.lvs (by exact ⟨rfl, rfl, rfl, trivial⟩) (sw_VectorSolverModel_thing_26 h)
  · replace h := h.2 z
    refine xJ.iload_n (o_VectorSolverModel_thing 3 rfl) rfl ?_
    refine xJ.aload_n (o_VectorSolverModel_thing 4 rfl) rfl ?_
    refine xJ.getfield (o_VectorSolverModel_thing 5 rfl) f_VectorSolverModel_246 rfl rfl ?_
    refine xJ.icmp_ge (tgt := 26) (o_VectorSolverModel_thing 6 rfl) (by decide) (fun z => ?_) (fun z => ?_)
    · replace h := h.1 z
      exact xJ.lvs (by exact ⟨rfl, rfl, rfl, trivial⟩) (sw_VectorSolverModel_thing_26 h)
    · replace h := h.2 z
      refine xJ.iload_n (o_VectorSolverModel_thing 7 rfl) rfl ?_
      refine xJ.if_lt (tgt := 26) (o_VectorSolverModel_thing 8 rfl) (by decide) (fun z => ?_) (fun z => ?_)
      · replace h := h.1 z
        exact xJ.lvs (by exact ⟨rfl, rfl, rfl, trivial⟩) (sw_VectorSolverModel_thing_26 h)
      · replace h := h.2 z
        refine xJ.iload_n (o_VectorSolverModel_thing 9 rfl) rfl ?_
        refine xJ.iconst (v := 3) (o_VectorSolverModel_thing 10 rfl) (by decide) ?_
        refine xJ.icmp_gt (tgt := 26) (o_VectorSolverModel_thing 11 rfl) (by decide) (fun z => ?_) (fun z => ?_)
        · replace h := h.1 z
          exact xJ.lvs (by exact ⟨rfl, rfl, rfl, trivial⟩) (sw_VectorSolverModel_thing_26 h)
        · replace h := h.2 z
          refine xJ.iconst (v := 0) (o_VectorSolverModel_thing 12 rfl) (by decide) ?_
          refine xJ.goto (tgt := 27) (o_VectorSolverModel_thing 13 rfl) (by decide) ?_
          exact xJ.lvs (by exact ⟨rfl, rfl, rfl, trivial⟩) (sw_VectorSolverModel_thing_27 h)
theorem sc_VectorSolverModel_count_29 {x : Int32} {P : Nat → Prop} (k0 : x = 0 → P 68) (k1 : x = 1 → P 73) (k2 : x = 2 → P 78) (k3 : x = 3 → P 83) (k4 : x = 4 → P 88) (k5 : x = 5 → P 93) (kd : ¬ x = 0 ∧ ¬ x = 1 ∧ ¬ x = 2 ∧ ¬ x = 3 ∧ ¬ x = 4 ∧ ¬ x = 5 → P 98) : ∃ t : Nat, xdst 29 69 0 5 #[39, 44, 49, 54, 59, 64] x = (t : Int) ∧ P t := by
  by_cases h0_0 : x = 0
  · subst h0_0; exact ⟨68, by decide, k0 (rfl)⟩
  by_cases h1_0 : x = 1
  · subst h1_0; exact ⟨73, by decide, k1 (rfl)⟩
  by_cases h2_0 : x = 2
  · subst h2_0; exact ⟨78, by decide, k2 (rfl)⟩
  by_cases h3_0 : x = 3
  · subst h3_0; exact ⟨83, by decide, k3 (rfl)⟩
  by_cases h4_0 : x = 4
  · subst h4_0; exact ⟨88, by decide, k4 (rfl)⟩
  by_cases h5_0 : x = 5
  · subst h5_0; exact ⟨93, by decide, k5 (rfl)⟩
  have nh0_0 := lv_neT h0_0 (show (0 : Int32).toInt = 0 by decide)
  have nh1_0 := lv_neT h1_0 (show (1 : Int32).toInt = 1 by decide)
  have nh2_0 := lv_neT h2_0 (show (2 : Int32).toInt = 2 by decide)
  have nh3_0 := lv_neT h3_0 (show (3 : Int32).toInt = 3 by decide)
  have nh4_0 := lv_neT h4_0 (show (4 : Int32).toInt = 4 by decide)
  have nh5_0 := lv_neT h5_0 (show (5 : Int32).toInt = 5 by decide)
  refine ⟨98, ?_, kd ⟨h0_0, h1_0, h2_0, h3_0, h4_0, h5_0⟩⟩
  exact xdst_out (by omega) rfl
def w_VectorSolverModel_count_16 (Q : xO → xS → Prop) (a1 : Int32) (t1 : Int32) (σ : xS) : Prop :=
  (∀ s1 : xS, s1 = xpi σ 50 1 t1 → (((xi s1 50 1) ≤ 0 → ((a1 = 0 → Q (.inl (some (.int (xi s1 50 11)))) s1) ∧ (a1 = 1 → Q (.inl (some (.int (xi s1 50 23)))) s1) ∧ (a1 = 2 → Q (.inl (some (.int (xi s1 50 27)))) s1) ∧ (a1 = 3 → Q (.inl (some (.int (xi s1 50 3)))) s1) ∧ (a1 = 4 → Q (.inl (some (.int (xi s1 50 42)))) s1) ∧ (a1 = 5 → Q (.inl (some (.int (xi s1 50 45)))) s1) ∧ (¬ a1 = 0 ∧ ¬ a1 = 1 ∧ ¬ a1 = 2 ∧ ¬ a1 = 3 ∧ ¬ a1 = 4 ∧ ¬ a1 = 5 → Q (.inl (some (.int (xi s1 50 44)))) s1))) ∧ (¬ (xi s1 50 1) ≤ 0 → Q (.inl (some (.int 0))) s1)))
def w_VectorSolverModel_count_15 (Q : xO → xS → Prop) (a1 : Int32) (σ : xS) : Prop :=
  w_VectorSolverModel_count_16 Q a1 1 σ
def wp_VectorSolverModel_count (Q : xO → xS → Prop) (σ : xS) (a1 : Int32) : Prop :=
  ((a1 < 0 → w_VectorSolverModel_count_15 Q a1 σ) ∧ (¬ a1 < 0 → ((6 < a1 → w_VectorSolverModel_count_15 Q a1 σ) ∧ (¬ 6 < a1 → w_VectorSolverModel_count_16 Q a1 0 σ))))
set_option maxRecDepth 20000 in
theorem sw_VectorSolverModel_count_16 {γ : xG1} {d b0 : Nat} {Q : xO → xS → Prop} {a1 : Int32} {t1 : Int32} {σ : xS} (h : w_VectorSolverModel_count_16 Q a1 t1 σ) : xJ (SHP, γ) Y_VectorSolverModel_count (d + 0) b0 16 [(0, .ref 50), (1, .int a1)] [.int t1, .ref 50] σ Q := by
  refine xJ.putI (o_VectorSolverModel_count 9 rfl) f_VectorSolverModel_126 rfl rfl rfl ?_
  replace h := h _ rfl
  refine xJ.aload_n (o_VectorSolverModel_count 10 rfl) rfl ?_
  refine xJ.getfield (o_VectorSolverModel_count 11 rfl) f_VectorSolverModel_126 rfl rfl ?_
  refine xJ.if_le (tgt := 28) (o_VectorSolverModel_count 12 rfl) (by decide) (fun z => ?_) (fun z => ?_)
  · replace h := h.1 z
    refine xJ.iload_n (o_VectorSolverModel_count 15 rfl) rfl ?_
    refine xJ.tsw (o_VectorSolverModel_count 16 rfl) (by decide) (sc_VectorSolverModel_count_29 (fun z => ?_) (fun z => ?_) (fun z => ?_) (fun z => ?_) (fun z => ?_) (fun z => ?_) (fun z => ?_))
    · replace h := h.1 z
      refine xJ.aload_n (o_VectorSolverModel_count 17 rfl) rfl ?_
      refine xJ.getfield (o_VectorSolverModel_count 18 rfl) f_VectorSolverModel_220 rfl rfl ?_
      exact xJ.ireturn (o_VectorSolverModel_count 19 rfl) rfl h
    · replace h := h.2.1 z
      refine xJ.aload_n (o_VectorSolverModel_count 20 rfl) rfl ?_
      refine xJ.getfield (o_VectorSolverModel_count 21 rfl) f_VectorSolverModel_183 rfl rfl ?_
      exact xJ.ireturn (o_VectorSolverModel_count 22 rfl) rfl h
    · replace h := h.2.2.1 z
      refine xJ.aload_n (o_VectorSolverModel_count 23 rfl) rfl ?_
      refine xJ.getfield (o_VectorSolverModel_count 24 rfl) f_VectorSolverModel_255 rfl rfl ?_
      exact xJ.ireturn (o_VectorSolverModel_count 25 rfl) rfl h
    · replace h := h.2.2.2.1 z
      refine xJ.aload_n (o_VectorSolverModel_count 26 rfl) rfl ?_
      refine xJ.getfield (o_VectorSolverModel_count 27 rfl) f_VectorSolverModel_129 rfl rfl ?_
      exact xJ.ireturn (o_VectorSolverModel_count 28 rfl) rfl h
    · replace h := h.2.2.2.2.1 z
      refine xJ.aload_n (o_VectorSolverModel_count 29 rfl) rfl ?_
      refine xJ.getfield (o_VectorSolverModel_count 30 rfl) f_VectorSolverModel_246 rfl rfl ?_
      exact xJ.ireturn (o_VectorSolverModel_count 31 rfl) rfl h
    · replace h := h.2.2.2.2.2.1 z
      refine xJ.aload_n (o_VectorSolverModel_count 32 rfl) rfl ?_
      refine xJ.getfield (o_VectorSolverModel_count 33 rfl) f_VectorSolverModel_249 rfl rfl ?_
      exact xJ.ireturn (o_VectorSolverModel_count 34 rfl) rfl h
    · replace h := h.2.2.2.2.2.2 z
      refine xJ.aload_n (o_VectorSolverModel_count 35 rfl) rfl ?_
      refine xJ.getfield (o_VectorSolverModel_count 36 rfl) f_VectorSolverModel_223 rfl rfl ?_
      exact xJ.ireturn (o_VectorSolverModel_count 37 rfl) rfl h
  · replace h := h.2 z
    refine xJ.iconst (v := 0) (o_VectorSolverModel_count 13 rfl) (by decide) ?_
    exact xJ.ireturn (o_VectorSolverModel_count 14 rfl) rfl h
set_option maxRecDepth 20000 in
theorem sw_VectorSolverModel_count_15 {γ : xG1} {d b0 : Nat} {Q : xO → xS → Prop} {a1 : Int32} {σ : xS} (h : w_VectorSolverModel_count_15 Q a1 σ) : xJ (SHP, γ) Y_VectorSolverModel_count (d + 0) b0 15 [(0, .ref 50), (1, .int a1)] [.ref 50] σ Q := by
  refine xJ.iconst (v := 1) (o_VectorSolverModel_count 8 rfl) (by decide) ?_
  exact xJ.lvs (by exact ⟨rfl, rfl, trivial⟩) (sw_VectorSolverModel_count_16 h)
set_option maxRecDepth 20000 in
theorem s_VectorSolverModel_count {γ : xG1} {d : Nat} {Q : xO → xS → Prop} {σ : xS} {a1 : Int32} (h : wp_VectorSolverModel_count Q σ a1) : xM (SHP, γ) Y_VectorSolverModel_count (d + 0) [.ref 50, .int a1] σ Q := by
  refine xM.of (by decide) (Nat.le_of_ble_eq_true rfl) ?_
  refine xJ.aload_n (o_VectorSolverModel_count 0 rfl) rfl ?_
  refine xJ.iload_n (o_VectorSolverModel_count 1 rfl) rfl ?_
  refine xJ.if_lt (tgt := 15) (o_VectorSolverModel_count 2 rfl) (by decide) (fun z => ?_) (fun z => ?_)
  · replace h := h.1 z
    exact xJ.lvs (by exact ⟨rfl, rfl, trivial⟩) (sw_VectorSolverModel_count_15 h)
  · replace h := h.2 z
    refine xJ.iload_n (o_VectorSolverModel_count 3 rfl) rfl ?_
    refine xJ.bipush (v := 6) (o_VectorSolverModel_count 4 rfl) (by decide) ?_
    refine xJ.icmp_gt (tgt := 15) (o_VectorSolverModel_count 5 rfl) (by decide) (fun z => ?_) (fun z => ?_)
    · replace h := h.1 z
      exact xJ.lvs (by exact ⟨rfl, rfl, trivial⟩) (sw_VectorSolverModel_count_15 h)
    · replace h := h.2 z
      refine xJ.iconst (v := 0) (o_VectorSolverModel_count 6 rfl) (by decide) ?_
      refine xJ.goto (tgt := 16) (o_VectorSolverModel_count 7 rfl) (by decide) ?_
      exact xJ.lvs (by exact ⟨rfl, rfl, trivial⟩) (sw_VectorSolverModel_count_16 h)
