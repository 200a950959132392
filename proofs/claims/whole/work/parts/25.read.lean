def w_Reader_wholeText_42 (Q : xO → xS → Prop) (a1 : Int32) (σ : xS) : Prop :=
  (∀ s12 : xS, s12 = xpi σ 1 1 0 → Q (.inl (some (.int a1))) s12)
def wp_Reader_wholeText (Q : xO → xS → Prop) (σ : xS)  : Prop :=
  wp_Text_split (xqv (fun u1 => wp_Book_keep (xqv (fun u3 => (∀ s5 : xS, s5 = xpi u3 24 4 0 → (∀ s6 : xS, s6 = xpi s5 24 9 0 → (∀ x7 : Int32, x7 = (-1) → wp_Reader_commands (xqi (fun r9 u8 => w_Reader_wholeText_42 Q r9 u8) (fun n u => (n = 0 ∧ wp_Book_goBack (xqv (fun u10 => w_Reader_wholeText_42 Q x7 u10) (fun n u => Q (.inr n) u)) u ))) s6 )))) (fun n u => Q (.inr n) u)) u1 ) (fun n u => Q (.inr n) u)) σ 
set_option maxRecDepth 20000 in
theorem sw_Reader_wholeText_42 {γ : xG1} {d b0 : Nat} {Q : xO → xS → Prop} {a1 : Int32} {σ : xS} (h : w_Reader_wholeText_42 Q a1 σ) : xJ (SHP, γ) Y_Reader_wholeText (d + 267) b0 42 [(0, .ref 24), (1, .int a1)] [] σ Q := by
  refine xJ.aload_n (o_Reader_wholeText 22 rfl) rfl ?_
  refine xJ.getfield (o_Reader_wholeText 23 rfl) f_Reader_28 rfl rfl ?_
  refine xJ.iconst (v := 0) (o_Reader_wholeText 24 rfl) (by decide) ?_
  refine xJ.putI (o_Reader_wholeText 25 rfl) f_Reader_67 rfl rfl rfl ?_
  replace h := h _ rfl
  refine xJ.iload_n (o_Reader_wholeText 26 rfl) rfl ?_
  exact xJ.ireturn (o_Reader_wholeText 27 rfl) rfl h
set_option maxRecDepth 20000 in
theorem s_Reader_wholeText {γ : xG1} {d : Nat} {Q : xO → xS → Prop} {σ : xS}  (h : wp_Reader_wholeText Q σ ) : xM (SHP, γ) Y_Reader_wholeText (d + 267) [.ref 24] σ Q := by
  refine xM.of (by decide) (Nat.le_of_ble_eq_true rfl) ?_
  refine xJ.aload_n (o_Reader_wholeText 0 rfl) rfl ?_
  refine xJ.getfield (o_Reader_wholeText 1 rfl) f_Reader_28 rfl rfl ?_
  refine xJ.callV (Y' := Y_Text_split) (o_Reader_wholeText 2 rfl) m_Reader_43 y_Text_split im_Text_split se_Text_split rfl rfl (s_Text_split h) rfl rfl (Nat.le_of_ble_eq_true rfl) (by decide) (fun v u q => ?_) (fun n u q => q)
  obtain ⟨rfl, h⟩ := xqv_get q
  refine xJ.aload_n (o_Reader_wholeText 3 rfl) rfl ?_
  refine xJ.getfield (o_Reader_wholeText 4 rfl) f_Reader_32 rfl rfl ?_
  refine xJ.callV (Y' := Y_Book_keep) (o_Reader_wholeText 5 rfl) m_Reader_48 y_Book_keep im_Book_keep se_Book_keep rfl rfl (s_Book_keep h) rfl rfl (Nat.le_of_ble_eq_true rfl) (by decide) (fun v u q => ?_) (fun n u q => q)
  obtain ⟨rfl, h⟩ := xqv_get q
  refine xJ.aload_n (o_Reader_wholeText 6 rfl) rfl ?_
  refine xJ.iconst (v := 0) (o_Reader_wholeText 7 rfl) (by decide) ?_
  refine xJ.putI (o_Reader_wholeText 8 rfl) f_Reader_51 rfl rfl rfl ?_
  replace h := h _ rfl
  refine xJ.aload_n (o_Reader_wholeText 9 rfl) rfl ?_
  refine xJ.iconst (v := 0) (o_Reader_wholeText 10 rfl) (by decide) ?_
  refine xJ.putI (o_Reader_wholeText 11 rfl) f_Reader_55 rfl rfl rfl ?_
  replace h := h _ rfl
  refine xJ.iconst (v := (-1)) (o_Reader_wholeText 12 rfl) (by decide) ?_
  refine xJ.istore_n (o_Reader_wholeText 13 rfl) (by decide) ?_
  replace h := h _ rfl
  refine xJ.aload_n (o_Reader_wholeText 14 rfl) rfl ?_
  refine xJ.callV1 (Y' := Y_Reader_commands) (o_Reader_wholeText 15 rfl) m_Reader_58 y_Reader_commands im_Reader_commands se_Reader_commands rfl rfl (s_Reader_commands h) rfl rfl (Nat.le_of_ble_eq_true rfl) rfl (by decide) cw_Reader_62 (Or.inl ⟨2, rfl, (o_Reader_wholeText 18 rfl), rfl⟩) (by decide) (fun v u q => ?_) (fun n u q => ⟨q.1, ?_⟩)
  · obtain ⟨r, rfl, h⟩ := xqi_get q
    refine xJ.istore_n (o_Reader_wholeText 16 rfl) (by decide) ?_
    refine xJ.goto (tgt := 42) (o_Reader_wholeText 17 rfl) (by decide) ?_
    exact xJ.lvs (by exact ⟨rfl, rfl, trivial⟩) (sw_Reader_wholeText_42 h)
  · have h := q.2
    refine xJ.aload_n (o_Reader_wholeText 19 rfl) rfl ?_
    refine xJ.getfield (o_Reader_wholeText 20 rfl) f_Reader_32 rfl rfl ?_
    refine xJ.callV (Y' := Y_Book_goBack) (o_Reader_wholeText 21 rfl) m_Reader_64 y_Book_goBack im_Book_goBack se_Book_goBack rfl rfl (s_Book_goBack h) rfl rfl (Nat.le_of_ble_eq_true rfl) (by decide) (fun v u q => ?_) (fun n u q => q)
    obtain ⟨rfl, h⟩ := xqv_get q
    exact xJ.lvs (by exact ⟨rfl, rfl, trivial⟩) (sw_Reader_wholeText_42 h)
def wp_VectorSolver_read (Q : xO → xS → Prop) (σ : xS)  : Prop :=
  wp_Reader_wholeText (xqi (fun r2 u1 => Q (.inl (some (.int r2))) u1) (fun n u => Q (.inr n) u)) σ 
set_option maxRecDepth 20000 in
theorem s_VectorSolver_read {γ : xG1} {d : Nat} {Q : xO → xS → Prop} {σ : xS}  (h : wp_VectorSolver_read Q σ ) : xM (SHP, γ) Y_VectorSolver_read (d + 268) [.ref 0] σ Q := by
  refine xM.of (by decide) (Nat.le_of_ble_eq_true rfl) ?_
  refine xJ.aload_n (o_VectorSolver_read 0 rfl) rfl ?_
  refine xJ.getfield (o_VectorSolver_read 1 rfl) f_VectorSolver_28 rfl rfl ?_
  refine xJ.callV (Y' := Y_Reader_wholeText) (o_VectorSolver_read 2 rfl) m_VectorSolver_76 y_Reader_wholeText im_Reader_wholeText se_Reader_wholeText rfl rfl (s_Reader_wholeText h) rfl rfl (Nat.le_of_ble_eq_true rfl) (fun _ hx => by cases hx) (fun v u q => ?_) (fun n u q => q)
  obtain ⟨r, rfl, h⟩ := xqi_get q
  exact xJ.ireturn (o_VectorSolver_read 3 rfl) rfl h
