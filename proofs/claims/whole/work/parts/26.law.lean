def wp_VectorSolverLaw_feed_0_84 (Q : xO → xS → Prop) (σ : xS) (a1 : Int32) (a2 : Int32) (a3 : Int32) (a4 : Int32) (a5 : Int32) : Prop :=
  wp_VectorSolver_feed (xqi (fun r2 u1 => (vp_in 0 1 ∧ (∀ s3 : xS, s3 = xpl u1 84 (0 : Int32).toNatClampNeg r2.toInt64 → Q (.inl (some (.int 0))) s3))) (fun n u => (n = 0 ∧ Q (.inl (some (.int 1))) u))) σ a1 a2 a3 a4 a5
set_option maxRecDepth 20000 in
theorem s_VectorSolverLaw_feed_0_84 {γ : xG1} {d : Nat} {Q : xO → xS → Prop} {σ : xS} {a1 : Int32} {a2 : Int32} {a3 : Int32} {a4 : Int32} {a5 : Int32} (h : wp_VectorSolverLaw_feed_0_84 Q σ a1 a2 a3 a4 a5) : xM (SHP, γ) Y_VectorSolverLaw_feed (d + 10) [.ref 0, .int a1, .int a2, .int a3, .int a4, .int a5, .ref 84] σ Q := by
  refine xM.of (by decide) (Nat.le_of_ble_eq_true rfl) ?_
  refine xJ.aload (o_VectorSolverLaw_feed 0 rfl) rfl ?_
  refine xJ.iconst (v := 0) (o_VectorSolverLaw_feed 1 rfl) (by decide) ?_
  refine xJ.aload_n (o_VectorSolverLaw_feed 2 rfl) rfl ?_
  refine xJ.iload_n (o_VectorSolverLaw_feed 3 rfl) rfl ?_
  refine xJ.iload_n (o_VectorSolverLaw_feed 4 rfl) rfl ?_
  refine xJ.iload_n (o_VectorSolverLaw_feed 5 rfl) rfl ?_
  refine xJ.iload (o_VectorSolverLaw_feed 6 rfl) rfl ?_
  refine xJ.iload (o_VectorSolverLaw_feed 7 rfl) rfl ?_
  refine xJ.callV1 (Y' := Y_VectorSolver_feed) (o_VectorSolverLaw_feed 8 rfl) m_VectorSolverLaw_7 y_VectorSolver_feed im_VectorSolver_feed se_VectorSolver_feed rfl rfl (s_VectorSolver_feed h) rfl rfl (Nat.le_of_ble_eq_true rfl) rfl (by decide) cw_VectorSolverLaw_13 (Or.inr ⟨(o_VectorSolverLaw_feed 12 rfl), rfl⟩) (by decide) (fun v u q => ?_) (fun n u q => ⟨q.1, ?_⟩)
  · obtain ⟨r, rfl, h⟩ := xqi_get q
    refine xJ.i2l (o_VectorSolverLaw_feed 9 rfl) rfl ?_
    refine xJ.lastore (o_VectorSolverLaw_feed 10 rfl) rfl h.1 ?_
    replace h := h.2
    replace h := h _ rfl
    refine xJ.goto (tgt := 23) (o_VectorSolverLaw_feed 11 rfl) (by decide) ?_
    refine xJ.iconst (v := 0) (o_VectorSolverLaw_feed 15 rfl) (by decide) ?_
    exact xJ.ireturn (o_VectorSolverLaw_feed 16 rfl) rfl h
  · have h := q.2
    refine xJ.iconst (v := 1) (o_VectorSolverLaw_feed 13 rfl) (by decide) ?_
    exact xJ.ireturn (o_VectorSolverLaw_feed 14 rfl) rfl h
def wp_VectorSolverLaw_trim_0_84 (Q : xO → xS → Prop) (σ : xS) (a1 : Int32) : Prop :=
  wp_VectorSolver_trim (xqi (fun r2 u1 => (vp_in 0 1 ∧ (∀ s3 : xS, s3 = xpl u1 84 (0 : Int32).toNatClampNeg r2.toInt64 → Q (.inl (some (.int 0))) s3))) (fun n u => (n = 1 ∧ Q (.inl (some (.int 1))) u))) σ a1
set_option maxRecDepth 20000 in
theorem s_VectorSolverLaw_trim_0_84 {γ : xG1} {d : Nat} {Q : xO → xS → Prop} {σ : xS} {a1 : Int32} (h : wp_VectorSolverLaw_trim_0_84 Q σ a1) : xM (SHP, γ) Y_VectorSolverLaw_trim (d + 10) [.ref 0, .int a1, .ref 84] σ Q := by
  refine xM.of (by decide) (Nat.le_of_ble_eq_true rfl) ?_
  refine xJ.aload_n (o_VectorSolverLaw_trim 0 rfl) rfl ?_
  refine xJ.iconst (v := 0) (o_VectorSolverLaw_trim 1 rfl) (by decide) ?_
  refine xJ.aload_n (o_VectorSolverLaw_trim 2 rfl) rfl ?_
  refine xJ.iload_n (o_VectorSolverLaw_trim 3 rfl) rfl ?_
  refine xJ.callV1 (Y' := Y_VectorSolver_trim) (o_VectorSolverLaw_trim 4 rfl) m_VectorSolverLaw_15 y_VectorSolver_trim im_VectorSolver_trim se_VectorSolver_trim rfl rfl (s_VectorSolver_trim h) rfl rfl (Nat.le_of_ble_eq_true rfl) rfl (by decide) cw_VectorSolverLaw_19 (Or.inl ⟨3, rfl, (o_VectorSolverLaw_trim 8 rfl), rfl⟩) (by decide) (fun v u q => ?_) (fun n u q => ⟨q.1, ?_⟩)
  · obtain ⟨r, rfl, h⟩ := xqi_get q
    refine xJ.i2l (o_VectorSolverLaw_trim 5 rfl) rfl ?_
    refine xJ.lastore (o_VectorSolverLaw_trim 6 rfl) rfl h.1 ?_
    replace h := h.2
    replace h := h _ rfl
    refine xJ.goto (tgt := 15) (o_VectorSolverLaw_trim 7 rfl) (by decide) ?_
    refine xJ.iconst (v := 0) (o_VectorSolverLaw_trim 11 rfl) (by decide) ?_
    exact xJ.ireturn (o_VectorSolverLaw_trim 12 rfl) rfl h
  · have h := q.2
    refine xJ.iconst (v := 1) (o_VectorSolverLaw_trim 9 rfl) (by decide) ?_
    exact xJ.ireturn (o_VectorSolverLaw_trim 10 rfl) rfl h
def wp_VectorSolverLaw_fault_0_84 (Q : xO → xS → Prop) (σ : xS) (a1 : Int32) : Prop :=
  wp_VectorSolver_fault (xqi (fun r2 u1 => (vp_in 0 1 ∧ (∀ s3 : xS, s3 = xpl u1 84 (0 : Int32).toNatClampNeg r2.toInt64 → Q (.inl (some (.int 0))) s3))) (fun n u => (n = 1 ∧ Q (.inl (some (.int 1))) u))) σ a1
set_option maxRecDepth 20000 in
theorem s_VectorSolverLaw_fault_0_84 {γ : xG1} {d : Nat} {Q : xO → xS → Prop} {σ : xS} {a1 : Int32} (h : wp_VectorSolverLaw_fault_0_84 Q σ a1) : xM (SHP, γ) Y_VectorSolverLaw_fault (d + 10) [.ref 0, .int a1, .ref 84] σ Q := by
  refine xM.of (by decide) (Nat.le_of_ble_eq_true rfl) ?_
  refine xJ.aload_n (o_VectorSolverLaw_fault 0 rfl) rfl ?_
  refine xJ.iconst (v := 0) (o_VectorSolverLaw_fault 1 rfl) (by decide) ?_
  refine xJ.aload_n (o_VectorSolverLaw_fault 2 rfl) rfl ?_
  refine xJ.iload_n (o_VectorSolverLaw_fault 3 rfl) rfl ?_
  refine xJ.callV1 (Y' := Y_VectorSolver_fault) (o_VectorSolverLaw_fault 4 rfl) m_VectorSolverLaw_21 y_VectorSolver_fault im_VectorSolver_fault se_VectorSolver_fault rfl rfl (s_VectorSolver_fault h) rfl rfl (Nat.le_of_ble_eq_true rfl) rfl (by decide) cw_VectorSolverLaw_19 (Or.inl ⟨3, rfl, (o_VectorSolverLaw_fault 8 rfl), rfl⟩) (by decide) (fun v u q => ?_) (fun n u q => ⟨q.1, ?_⟩)
  · obtain ⟨r, rfl, h⟩ := xqi_get q
    refine xJ.i2l (o_VectorSolverLaw_fault 5 rfl) rfl ?_
    refine xJ.lastore (o_VectorSolverLaw_fault 6 rfl) rfl h.1 ?_
    replace h := h.2
    replace h := h _ rfl
    refine xJ.goto (tgt := 15) (o_VectorSolverLaw_fault 7 rfl) (by decide) ?_
    refine xJ.iconst (v := 0) (o_VectorSolverLaw_fault 11 rfl) (by decide) ?_
    exact xJ.ireturn (o_VectorSolverLaw_fault 12 rfl) rfl h
  · have h := q.2
    refine xJ.iconst (v := 1) (o_VectorSolverLaw_fault 9 rfl) (by decide) ?_
    exact xJ.ireturn (o_VectorSolverLaw_fault 10 rfl) rfl h
def wp_VectorSolverLaw_check_0_84 (Q : xO → xS → Prop) (σ : xS)  : Prop :=
  wp_VectorSolver_check (xqi (fun r2 u1 => ((r2 = 0 → (vp_in 0 1 ∧ (∀ s3 : xS, s3 = xpl u1 84 (0 : Int32).toNatClampNeg 0 → Q (.inl (some (.int 0))) s3))) ∧ (¬ r2 = 0 → (vp_in 0 1 ∧ (∀ s4 : xS, s4 = xpl u1 84 (0 : Int32).toNatClampNeg 1 → Q (.inl (some (.int 0))) s4))))) (fun n u => (n = 0 ∧ Q (.inl (some (.int 1))) u))) σ 
set_option maxRecDepth 20000 in
theorem s_VectorSolverLaw_check_0_84 {γ : xG1} {d : Nat} {Q : xO → xS → Prop} {σ : xS}  (h : wp_VectorSolverLaw_check_0_84 Q σ ) : xM (SHP, γ) Y_VectorSolverLaw_check (d + 11) [.ref 0, .ref 84] σ Q := by
  refine xM.of (by decide) (Nat.le_of_ble_eq_true rfl) ?_
  refine xJ.aload_n (o_VectorSolverLaw_check 0 rfl) rfl ?_
  refine xJ.iconst (v := 0) (o_VectorSolverLaw_check 1 rfl) (by decide) ?_
  refine xJ.aload_n (o_VectorSolverLaw_check 2 rfl) rfl ?_
  refine xJ.callV1 (Y' := Y_VectorSolver_check) (o_VectorSolverLaw_check 3 rfl) m_VectorSolverLaw_24 y_VectorSolver_check im_VectorSolver_check se_VectorSolver_check rfl rfl (s_VectorSolver_check h) rfl rfl (Nat.le_of_ble_eq_true rfl) rfl (by decide) cw_VectorSolverLaw_13 (Or.inl ⟨2, rfl, (o_VectorSolverLaw_check 10 rfl), rfl⟩) (by decide) (fun v u q => ?_) (fun n u q => ⟨q.1, ?_⟩)
  · obtain ⟨r, rfl, h⟩ := xqi_get q
    refine xJ.if_eq (tgt := 13) (o_VectorSolverLaw_check 4 rfl) (by decide) (fun z => ?_) (fun z => ?_)
    · replace h := h.1 z
      refine xJ.lconst (v := 0) (o_VectorSolverLaw_check 7 rfl) (by decide) ?_
      refine xJ.lastore (o_VectorSolverLaw_check 8 rfl) rfl h.1 ?_
      replace h := h.2
      replace h := h _ rfl
      refine xJ.goto (tgt := 21) (o_VectorSolverLaw_check 9 rfl) (by decide) ?_
      refine xJ.iconst (v := 0) (o_VectorSolverLaw_check 13 rfl) (by decide) ?_
      exact xJ.ireturn (o_VectorSolverLaw_check 14 rfl) rfl h
    · replace h := h.2 z
      refine xJ.lconst (v := 1) (o_VectorSolverLaw_check 5 rfl) (by decide) ?_
      refine xJ.goto (tgt := 14) (o_VectorSolverLaw_check 6 rfl) (by decide) ?_
      refine xJ.lastore (o_VectorSolverLaw_check 8 rfl) rfl h.1 ?_
      replace h := h.2
      replace h := h _ rfl
      refine xJ.goto (tgt := 21) (o_VectorSolverLaw_check 9 rfl) (by decide) ?_
      refine xJ.iconst (v := 0) (o_VectorSolverLaw_check 13 rfl) (by decide) ?_
      exact xJ.ireturn (o_VectorSolverLaw_check 14 rfl) rfl h
  · have h := q.2
    refine xJ.iconst (v := 1) (o_VectorSolverLaw_check 11 rfl) (by decide) ?_
    exact xJ.ireturn (o_VectorSolverLaw_check 12 rfl) rfl h
def wp_VectorSolverLaw_more_0_84 (Q : xO → xS → Prop) (σ : xS)  : Prop :=
  wp_VectorSolver_more (xqi (fun r2 u1 => ((r2 = 0 → (vp_in 0 1 ∧ (∀ s3 : xS, s3 = xpl u1 84 (0 : Int32).toNatClampNeg 0 → Q (.inl (some (.int 0))) s3))) ∧ (¬ r2 = 0 → (vp_in 0 1 ∧ (∀ s4 : xS, s4 = xpl u1 84 (0 : Int32).toNatClampNeg 1 → Q (.inl (some (.int 0))) s4))))) (fun n u => (n = 0 ∧ Q (.inl (some (.int 1))) u))) σ 
set_option maxRecDepth 20000 in
theorem s_VectorSolverLaw_more_0_84 {γ : xG1} {d : Nat} {Q : xO → xS → Prop} {σ : xS}  (h : wp_VectorSolverLaw_more_0_84 Q σ ) : xM (SHP, γ) Y_VectorSolverLaw_more (d + 11) [.ref 0, .ref 84] σ Q := by
  refine xM.of (by decide) (Nat.le_of_ble_eq_true rfl) ?_
  refine xJ.aload_n (o_VectorSolverLaw_more 0 rfl) rfl ?_
  refine xJ.iconst (v := 0) (o_VectorSolverLaw_more 1 rfl) (by decide) ?_
  refine xJ.aload_n (o_VectorSolverLaw_more 2 rfl) rfl ?_
  refine xJ.callV1 (Y' := Y_VectorSolver_more) (o_VectorSolverLaw_more 3 rfl) m_VectorSolverLaw_28 y_VectorSolver_more im_VectorSolver_more se_VectorSolver_more rfl rfl (s_VectorSolver_more h) rfl rfl (Nat.le_of_ble_eq_true rfl) rfl (by decide) cw_VectorSolverLaw_13 (Or.inl ⟨2, rfl, (o_VectorSolverLaw_more 10 rfl), rfl⟩) (by decide) (fun v u q => ?_) (fun n u q => ⟨q.1, ?_⟩)
  · obtain ⟨r, rfl, h⟩ := xqi_get q
    refine xJ.if_eq (tgt := 13) (o_VectorSolverLaw_more 4 rfl) (by decide) (fun z => ?_) (fun z => ?_)
    · replace h := h.1 z
      refine xJ.lconst (v := 0) (o_VectorSolverLaw_more 7 rfl) (by decide) ?_
      refine xJ.lastore (o_VectorSolverLaw_more 8 rfl) rfl h.1 ?_
      replace h := h.2
      replace h := h _ rfl
      refine xJ.goto (tgt := 21) (o_VectorSolverLaw_more 9 rfl) (by decide) ?_
      refine xJ.iconst (v := 0) (o_VectorSolverLaw_more 13 rfl) (by decide) ?_
      exact xJ.ireturn (o_VectorSolverLaw_more 14 rfl) rfl h
    · replace h := h.2 z
      refine xJ.lconst (v := 1) (o_VectorSolverLaw_more 5 rfl) (by decide) ?_
      refine xJ.goto (tgt := 14) (o_VectorSolverLaw_more 6 rfl) (by decide) ?_
      refine xJ.lastore (o_VectorSolverLaw_more 8 rfl) rfl h.1 ?_
      replace h := h.2
      replace h := h _ rfl
      refine xJ.goto (tgt := 21) (o_VectorSolverLaw_more 9 rfl) (by decide) ?_
      refine xJ.iconst (v := 0) (o_VectorSolverLaw_more 13 rfl) (by decide) ?_
      exact xJ.ireturn (o_VectorSolverLaw_more 14 rfl) rfl h
  · have h := q.2
    refine xJ.iconst (v := 1) (o_VectorSolverLaw_more 11 rfl) (by decide) ?_
    exact xJ.ireturn (o_VectorSolverLaw_more 12 rfl) rfl h
def wp_VectorSolverLaw_suppose_0_84 (Q : xO → xS → Prop) (σ : xS) (a1 : Int32) : Prop :=
  wp_VectorSolver_suppose (xqi (fun r2 u1 => ((r2 = 0 → (vp_in 0 1 ∧ (∀ s3 : xS, s3 = xpl u1 84 (0 : Int32).toNatClampNeg 0 → Q (.inl (some (.int 0))) s3))) ∧ (¬ r2 = 0 → (vp_in 0 1 ∧ (∀ s4 : xS, s4 = xpl u1 84 (0 : Int32).toNatClampNeg 1 → Q (.inl (some (.int 0))) s4))))) (fun n u => (n = 1 ∧ Q (.inl (some (.int 1))) u) ∨ (n = 0 ∧ Q (.inl (some (.int 2))) u))) σ a1
set_option maxRecDepth 20000 in
theorem s_VectorSolverLaw_suppose_0_84 {γ : xG1} {d : Nat} {Q : xO → xS → Prop} {σ : xS} {a1 : Int32} (h : wp_VectorSolverLaw_suppose_0_84 Q σ a1) : xM (SHP, γ) Y_VectorSolverLaw_suppose (d + 11) [.ref 0, .int a1, .ref 84] σ Q := by
  refine xM.of (by decide) (Nat.le_of_ble_eq_true rfl) ?_
  refine xJ.aload_n (o_VectorSolverLaw_suppose 0 rfl) rfl ?_
  refine xJ.iconst (v := 0) (o_VectorSolverLaw_suppose 1 rfl) (by decide) ?_
  refine xJ.aload_n (o_VectorSolverLaw_suppose 2 rfl) rfl ?_
  refine xJ.iload_n (o_VectorSolverLaw_suppose 3 rfl) rfl ?_
  refine xJ.callV2 (Y' := Y_VectorSolver_suppose) (o_VectorSolverLaw_suppose 4 rfl) m_VectorSolverLaw_31 y_VectorSolver_suppose im_VectorSolver_suppose se_VectorSolver_suppose rfl rfl (s_VectorSolver_suppose h) rfl rfl (Nat.le_of_ble_eq_true rfl) rfl (by decide) cw_VectorSolverLaw_19 cw_VectorSolverLaw_13 ⟨rfl, rfl⟩ (Or.inl ⟨3, rfl, (o_VectorSolverLaw_suppose 11 rfl), rfl⟩) (by decide) (Or.inl ⟨3, rfl, (o_VectorSolverLaw_suppose 14 rfl), rfl⟩) (by decide) (fun v u q => ?_) (fun n u q => q.imp (fun q => ⟨q.1, ?_⟩) (fun q => ⟨q.1, ?_⟩))
  · obtain ⟨r, rfl, h⟩ := xqi_get q
    refine xJ.if_eq (tgt := 14) (o_VectorSolverLaw_suppose 5 rfl) (by decide) (fun z => ?_) (fun z => ?_)
    · replace h := h.1 z
      refine xJ.lconst (v := 0) (o_VectorSolverLaw_suppose 8 rfl) (by decide) ?_
      refine xJ.lastore (o_VectorSolverLaw_suppose 9 rfl) rfl h.1 ?_
      replace h := h.2
      replace h := h _ rfl
      refine xJ.goto (tgt := 25) (o_VectorSolverLaw_suppose 10 rfl) (by decide) ?_
      refine xJ.iconst (v := 0) (o_VectorSolverLaw_suppose 17 rfl) (by decide) ?_
      exact xJ.ireturn (o_VectorSolverLaw_suppose 18 rfl) rfl h
    · replace h := h.2 z
      refine xJ.lconst (v := 1) (o_VectorSolverLaw_suppose 6 rfl) (by decide) ?_
      refine xJ.goto (tgt := 15) (o_VectorSolverLaw_suppose 7 rfl) (by decide) ?_
      refine xJ.lastore (o_VectorSolverLaw_suppose 9 rfl) rfl h.1 ?_
      replace h := h.2
      replace h := h _ rfl
      refine xJ.goto (tgt := 25) (o_VectorSolverLaw_suppose 10 rfl) (by decide) ?_
      refine xJ.iconst (v := 0) (o_VectorSolverLaw_suppose 17 rfl) (by decide) ?_
      exact xJ.ireturn (o_VectorSolverLaw_suppose 18 rfl) rfl h
  · have h := q.2
    refine xJ.iconst (v := 1) (o_VectorSolverLaw_suppose 12 rfl) (by decide) ?_
    exact xJ.ireturn (o_VectorSolverLaw_suppose 13 rfl) rfl h
  · have h := q.2
    refine xJ.iconst (v := 2) (o_VectorSolverLaw_suppose 15 rfl) (by decide) ?_
    exact xJ.ireturn (o_VectorSolverLaw_suppose 16 rfl) rfl h
def wp_VectorSolverLaw_value_0_84 (Q : xO → xS → Prop) (σ : xS) (a1 : Int32) (a2 : Int32) : Prop :=
  wp_VectorSolver_value (xql (fun r2 u1 => (vp_in 0 1 ∧ (∀ s3 : xS, s3 = xpl u1 84 (0 : Int32).toNatClampNeg r2 → Q (.inl (some (.int 0))) s3))) (fun n u => (n = 1 ∧ Q (.inl (some (.int 1))) u) ∨ (n = 0 ∧ Q (.inl (some (.int 2))) u))) σ a1 a2
set_option maxRecDepth 20000 in
theorem s_VectorSolverLaw_value_0_84 {γ : xG1} {d : Nat} {Q : xO → xS → Prop} {σ : xS} {a1 : Int32} {a2 : Int32} (h : wp_VectorSolverLaw_value_0_84 Q σ a1 a2) : xM (SHP, γ) Y_VectorSolverLaw_value (d + 11) [.ref 0, .int a1, .int a2, .ref 84] σ Q := by
  refine xM.of (by decide) (Nat.le_of_ble_eq_true rfl) ?_
  refine xJ.aload_n (o_VectorSolverLaw_value 0 rfl) rfl ?_
  refine xJ.iconst (v := 0) (o_VectorSolverLaw_value 1 rfl) (by decide) ?_
  refine xJ.aload_n (o_VectorSolverLaw_value 2 rfl) rfl ?_
  refine xJ.iload_n (o_VectorSolverLaw_value 3 rfl) rfl ?_
  refine xJ.iload_n (o_VectorSolverLaw_value 4 rfl) rfl ?_
  refine xJ.callV2 (Y' := Y_VectorSolver_value) (o_VectorSolverLaw_value 5 rfl) m_VectorSolverLaw_35 y_VectorSolver_value im_VectorSolver_value se_VectorSolver_value rfl rfl (s_VectorSolver_value h) rfl rfl (Nat.le_of_ble_eq_true rfl) rfl (by decide) cw_VectorSolverLaw_19 cw_VectorSolverLaw_13 ⟨rfl, rfl⟩ (Or.inr ⟨(o_VectorSolverLaw_value 8 rfl), rfl⟩) (by decide) (Or.inr ⟨(o_VectorSolverLaw_value 11 rfl), rfl⟩) (by decide) (fun v u q => ?_) (fun n u q => q.imp (fun q => ⟨q.1, ?_⟩) (fun q => ⟨q.1, ?_⟩))
  · obtain ⟨r, rfl, h⟩ := xql_get q
    refine xJ.lastore (o_VectorSolverLaw_value 6 rfl) rfl h.1 ?_
    replace h := h.2
    replace h := h _ rfl
    refine xJ.goto (tgt := 20) (o_VectorSolverLaw_value 7 rfl) (by decide) ?_
    refine xJ.iconst (v := 0) (o_VectorSolverLaw_value 14 rfl) (by decide) ?_
    exact xJ.ireturn (o_VectorSolverLaw_value 15 rfl) rfl h
  · have h := q.2
    refine xJ.iconst (v := 1) (o_VectorSolverLaw_value 9 rfl) (by decide) ?_
    exact xJ.ireturn (o_VectorSolverLaw_value 10 rfl) rfl h
  · have h := q.2
    refine xJ.iconst (v := 2) (o_VectorSolverLaw_value 12 rfl) (by decide) ?_
    exact xJ.ireturn (o_VectorSolverLaw_value 13 rfl) rfl h
def wp_VectorSolverLaw_named_0_84 (Q : xO → xS → Prop) (σ : xS) (a1 : Int32) : Prop :=
  wp_VectorSolver_named (xql (fun r2 u1 => (vp_in 0 1 ∧ (∀ s3 : xS, s3 = xpl u1 84 (0 : Int32).toNatClampNeg r2 → Q (.inl (some (.int 0))) s3))) (fun n u => (n = 1 ∧ Q (.inl (some (.int 1))) u) ∨ (n = 0 ∧ Q (.inl (some (.int 2))) u))) σ a1
set_option maxRecDepth 20000 in
theorem s_VectorSolverLaw_named_0_84 {γ : xG1} {d : Nat} {Q : xO → xS → Prop} {σ : xS} {a1 : Int32} (h : wp_VectorSolverLaw_named_0_84 Q σ a1) : xM (SHP, γ) Y_VectorSolverLaw_named (d + 11) [.ref 0, .int a1, .ref 84] σ Q := by
  refine xM.of (by decide) (Nat.le_of_ble_eq_true rfl) ?_
  refine xJ.aload_n (o_VectorSolverLaw_named 0 rfl) rfl ?_
  refine xJ.iconst (v := 0) (o_VectorSolverLaw_named 1 rfl) (by decide) ?_
  refine xJ.aload_n (o_VectorSolverLaw_named 2 rfl) rfl ?_
  refine xJ.iload_n (o_VectorSolverLaw_named 3 rfl) rfl ?_
  refine xJ.callV2 (Y' := Y_VectorSolver_named) (o_VectorSolverLaw_named 4 rfl) m_VectorSolverLaw_39 y_VectorSolver_named im_VectorSolver_named se_VectorSolver_named rfl rfl (s_VectorSolver_named h) rfl rfl (Nat.le_of_ble_eq_true rfl) rfl (by decide) cw_VectorSolverLaw_19 cw_VectorSolverLaw_13 ⟨rfl, rfl⟩ (Or.inl ⟨3, rfl, (o_VectorSolverLaw_named 7 rfl), rfl⟩) (by decide) (Or.inl ⟨3, rfl, (o_VectorSolverLaw_named 10 rfl), rfl⟩) (by decide) (fun v u q => ?_) (fun n u q => q.imp (fun q => ⟨q.1, ?_⟩) (fun q => ⟨q.1, ?_⟩))
  · obtain ⟨r, rfl, h⟩ := xql_get q
    refine xJ.lastore (o_VectorSolverLaw_named 5 rfl) rfl h.1 ?_
    replace h := h.2
    replace h := h _ rfl
    refine xJ.goto (tgt := 17) (o_VectorSolverLaw_named 6 rfl) (by decide) ?_
    refine xJ.iconst (v := 0) (o_VectorSolverLaw_named 13 rfl) (by decide) ?_
    exact xJ.ireturn (o_VectorSolverLaw_named 14 rfl) rfl h
  · have h := q.2
    refine xJ.iconst (v := 1) (o_VectorSolverLaw_named 8 rfl) (by decide) ?_
    exact xJ.ireturn (o_VectorSolverLaw_named 9 rfl) rfl h
  · have h := q.2
    refine xJ.iconst (v := 2) (o_VectorSolverLaw_named 11 rfl) (by decide) ?_
    exact xJ.ireturn (o_VectorSolverLaw_named 12 rfl) rfl h
def wp_VectorSolverLaw_thing_0_84 (Q : xO → xS → Prop) (σ : xS) (a1 : Int32) (a2 : Int32) : Prop :=
  wp_VectorSolver_thing (xqi (fun r2 u1 => (vp_in 0 1 ∧ (∀ s3 : xS, s3 = xpl u1 84 (0 : Int32).toNatClampNeg r2.toInt64 → Q (.inl (some (.int 0))) s3))) (fun n u => (n = 1 ∧ Q (.inl (some (.int 1))) u))) σ a1 a2
set_option maxRecDepth 20000 in
theorem s_VectorSolverLaw_thing_0_84 {γ : xG1} {d : Nat} {Q : xO → xS → Prop} {σ : xS} {a1 : Int32} {a2 : Int32} (h : wp_VectorSolverLaw_thing_0_84 Q σ a1 a2) : xM (SHP, γ) Y_VectorSolverLaw_thing (d + 11) [.ref 0, .int a1, .int a2, .ref 84] σ Q := by
  refine xM.of (by decide) (Nat.le_of_ble_eq_true rfl) ?_
  refine xJ.aload_n (o_VectorSolverLaw_thing 0 rfl) rfl ?_
  refine xJ.iconst (v := 0) (o_VectorSolverLaw_thing 1 rfl) (by decide) ?_
  refine xJ.aload_n (o_VectorSolverLaw_thing 2 rfl) rfl ?_
  refine xJ.iload_n (o_VectorSolverLaw_thing 3 rfl) rfl ?_
  refine xJ.iload_n (o_VectorSolverLaw_thing 4 rfl) rfl ?_
  refine xJ.callV1 (Y' := Y_VectorSolver_thing) (o_VectorSolverLaw_thing 5 rfl) m_VectorSolverLaw_43 y_VectorSolver_thing im_VectorSolver_thing se_VectorSolver_thing rfl rfl (s_VectorSolver_thing h) rfl rfl (Nat.le_of_ble_eq_true rfl) rfl (by decide) cw_VectorSolverLaw_19 (Or.inr ⟨(o_VectorSolverLaw_thing 9 rfl), rfl⟩) (by decide) (fun v u q => ?_) (fun n u q => ⟨q.1, ?_⟩)
  · obtain ⟨r, rfl, h⟩ := xqi_get q
    refine xJ.i2l (o_VectorSolverLaw_thing 6 rfl) rfl ?_
    refine xJ.lastore (o_VectorSolverLaw_thing 7 rfl) rfl h.1 ?_
    replace h := h.2
    replace h := h _ rfl
    refine xJ.goto (tgt := 17) (o_VectorSolverLaw_thing 8 rfl) (by decide) ?_
    refine xJ.iconst (v := 0) (o_VectorSolverLaw_thing 12 rfl) (by decide) ?_
    exact xJ.ireturn (o_VectorSolverLaw_thing 13 rfl) rfl h
  · have h := q.2
    refine xJ.iconst (v := 1) (o_VectorSolverLaw_thing 10 rfl) (by decide) ?_
    exact xJ.ireturn (o_VectorSolverLaw_thing 11 rfl) rfl h
def wp_VectorSolverLaw_count_0_84 (Q : xO → xS → Prop) (σ : xS) (a1 : Int32) : Prop :=
  wp_VectorSolver_count (xqi (fun r2 u1 => (vp_in 0 1 ∧ (∀ s3 : xS, s3 = xpl u1 84 (0 : Int32).toNatClampNeg r2.toInt64 → Q (.inl (some (.int 0))) s3))) (fun n u => (n = 1 ∧ Q (.inl (some (.int 1))) u))) σ a1
set_option maxRecDepth 20000 in
theorem s_VectorSolverLaw_count_0_84 {γ : xG1} {d : Nat} {Q : xO → xS → Prop} {σ : xS} {a1 : Int32} (h : wp_VectorSolverLaw_count_0_84 Q σ a1) : xM (SHP, γ) Y_VectorSolverLaw_count (d + 10) [.ref 0, .int a1, .ref 84] σ Q := by
  refine xM.of (by decide) (Nat.le_of_ble_eq_true rfl) ?_
  refine xJ.aload_n (o_VectorSolverLaw_count 0 rfl) rfl ?_
  refine xJ.iconst (v := 0) (o_VectorSolverLaw_count 1 rfl) (by decide) ?_
  refine xJ.aload_n (o_VectorSolverLaw_count 2 rfl) rfl ?_
  refine xJ.iload_n (o_VectorSolverLaw_count 3 rfl) rfl ?_
  refine xJ.callV1 (Y' := Y_VectorSolver_count) (o_VectorSolverLaw_count 4 rfl) m_VectorSolverLaw_47 y_VectorSolver_count im_VectorSolver_count se_VectorSolver_count rfl rfl (s_VectorSolver_count h) rfl rfl (Nat.le_of_ble_eq_true rfl) rfl (by decide) cw_VectorSolverLaw_19 (Or.inl ⟨3, rfl, (o_VectorSolverLaw_count 8 rfl), rfl⟩) (by decide) (fun v u q => ?_) (fun n u q => ⟨q.1, ?_⟩)
  · obtain ⟨r, rfl, h⟩ := xqi_get q
    refine xJ.i2l (o_VectorSolverLaw_count 5 rfl) rfl ?_
    refine xJ.lastore (o_VectorSolverLaw_count 6 rfl) rfl h.1 ?_
    replace h := h.2
    replace h := h _ rfl
    refine xJ.goto (tgt := 15) (o_VectorSolverLaw_count 7 rfl) (by decide) ?_
    refine xJ.iconst (v := 0) (o_VectorSolverLaw_count 11 rfl) (by decide) ?_
    exact xJ.ireturn (o_VectorSolverLaw_count 12 rfl) rfl h
  · have h := q.2
    refine xJ.iconst (v := 1) (o_VectorSolverLaw_count 9 rfl) (by decide) ?_
    exact xJ.ireturn (o_VectorSolverLaw_count 10 rfl) rfl h
