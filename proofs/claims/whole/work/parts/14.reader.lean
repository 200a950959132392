def wp_Reader_expect (Q : xO → xS → Prop) (σ : xS) (a1 : Int32) : Prop :=
  wp_Text_next (xqv (fun u1 => (((xi u1 1 9) = a1 → Q (.inl none) u1) ∧ (¬ (xi u1 1 9) = a1 → wp_Text_failHere (xqi (fun r4 u3 => Q (.inl none) u3) (fun n u => Q (.inr n) u)) u1 ))) (fun n u => Q (.inr n) u)) σ 
set_option maxRecDepth 20000 in
theorem s_Reader_expect {γ : xG1} {d : Nat} {Q : xO → xS → Prop} {σ : xS} {a1 : Int32} (h : wp_Reader_expect Q σ a1) : xM (SHP, γ) Y_Reader_expect (d + 10) [.ref 24, .int a1] σ Q := by
  refine xM.of (by decide) (Nat.le_of_ble_eq_true rfl) ?_
  refine xJ.aload_n (o_Reader_expect 0 rfl) rfl ?_
  refine xJ.getfield (o_Reader_expect 1 rfl) f_Reader_28 rfl rfl ?_
  refine xJ.callV (Y' := Y_Text_next) (o_Reader_expect 2 rfl) m_Reader_79 y_Text_next im_Text_next se_Text_next rfl rfl (s_Text_next h) rfl rfl (Nat.le_of_ble_eq_true rfl) (fun _ hx => by cases hx) (fun v u q => ?_) (fun n u q => q)
  obtain ⟨rfl, h⟩ := xqv_get q
  refine xJ.aload_n (o_Reader_expect 3 rfl) rfl ?_
  refine xJ.getfield (o_Reader_expect 4 rfl) f_Reader_28 rfl rfl ?_
  refine xJ.getfield (o_Reader_expect 5 rfl) f_Reader_97 rfl rfl ?_
  refine xJ.iload_n (o_Reader_expect 6 rfl) rfl ?_
  refine xJ.icmp_eq (tgt := 26) (o_Reader_expect 7 rfl) (by decide) (fun z => ?_) (fun z => ?_)
  · replace h := h.1 z
    exact xJ.return_ (o_Reader_expect 12 rfl) rfl h
  · replace h := h.2 z
    refine xJ.aload_n (o_Reader_expect 8 rfl) rfl ?_
    refine xJ.getfield (o_Reader_expect 9 rfl) f_Reader_28 rfl rfl ?_
    refine xJ.callV (Y' := Y_Text_failHere) (o_Reader_expect 10 rfl) m_Reader_94 y_Text_failHere im_Text_failHere se_Text_failHere rfl rfl (s_Text_failHere h) rfl rfl (Nat.le_of_ble_eq_true rfl) (fun _ hx => by cases hx) (fun v u q => ?_) (fun n u q => q)
    obtain ⟨r, rfl, h⟩ := xqi_get q
    refine xJ.pop (o_Reader_expect 11 rfl) rfl ?_
    exact xJ.return_ (o_Reader_expect 12 rfl) rfl h
def w_Book_addName_14 (Q : xO → xS → Prop) : Nat → Int32 → Int32 → Int32 → Int32 → xS → Prop
  | 0 => fun _ _ _ _ _ => False
  | n + 1 => fun a3 a4 a5 a6 σ =>
    ((a3 ≤ a6 → (vp_in (xi σ 5 4) 500 ∧ (∀ s2 : xS, s2 = xpi σ 18 (xi σ 5 4).toNatClampNeg a4 → (∀ s3 : xS, s3 = xpi s2 5 4 ((xi s2 5 4) + 1) → (vp_in (xi s3 5 4) 501 ∧ (∀ s4 : xS, s4 = xpi s3 17 (xi s3 5 4).toNatClampNeg a5 → Q (.inl none) s4)))))) ∧ (¬ a3 ≤ a6 → (vp_in a6 65536 ∧ (vp_in a5 65536 ∧ (∀ s5 : xS, s5 = xpi σ 16 a5.toNatClampNeg (vp_nar .byte (xi σ 2 a6.toNatClampNeg)) → (∀ x6 : Int32, x6 = a5 + 1 → (∀ x7 : Int32, x7 = a6 + 1 → w_Book_addName_14 Q n a3 a4 x6 x7 s5)))))))
def wp_Book_addName (Q : xO → xS → Prop) (σ : xS) (a2 : Int32) (a3 : Int32) (a4 : Int32) : Prop :=
  (vp_in (xi σ 5 4) 501 ∧ (∀ x1 : Int32, x1 = (xi σ 17 (xi σ 5 4).toNatClampNeg) → ∃ m, w_Book_addName_14 Q m a3 a4 x1 a2 σ))
set_option maxRecDepth 20000 in
theorem sw_Book_addName_14 {γ : xG1} {d b0 : Nat} {Q : xO → xS → Prop} : ∀ (n : Nat) (a3 : Int32) (a4 : Int32) (a5 : Int32) (a6 : Int32) (σ : xS), w_Book_addName_14 Q n a3 a4 a5 a6 σ → xJ (SHP, γ) Y_Book_addName (d + 0) b0 14 [(0, .ref 5), (1, .ref 1), (3, .int a3), (4, .int a4), (5, .int a5), (6, .int a6)] [] σ Q := by
  intro n
  induction n with
  | zero => intro a3 a4 a5 a6 σ h; exact h.elim
  | succ n ih =>
    intro a3 a4 a5 a6 σ h
    refine xJ.iload (o_Book_addName 8 rfl) rfl ?_
    refine xJ.iload_n (o_Book_addName 9 rfl) rfl ?_
    refine xJ.icmp_ge (tgt := 43) (o_Book_addName 10 rfl) (by decide) (fun z => ?_) (fun z => ?_)
    · replace h := h.1 z
      refine xJ.aload_n (o_Book_addName 22 rfl) rfl ?_
      refine xJ.getfield (o_Book_addName 23 rfl) f_Book_27 rfl rfl ?_
      refine xJ.aload_n (o_Book_addName 24 rfl) rfl ?_
      refine xJ.getfield (o_Book_addName 25 rfl) f_Book_55 rfl rfl ?_
      refine xJ.iload (o_Book_addName 26 rfl) rfl ?_
      refine xJ.iastore (o_Book_addName 27 rfl) rfl h.1 ?_
      replace h := h.2
      replace h := h _ rfl
      refine xJ.aload_n (o_Book_addName 28 rfl) rfl ?_
      refine xJ.dup (o_Book_addName 29 rfl) rfl ?_
      refine xJ.getfield (o_Book_addName 30 rfl) f_Book_55 rfl rfl ?_
      refine xJ.iconst (v := 1) (o_Book_addName 31 rfl) (by decide) ?_
      refine xJ.iadd (o_Book_addName 32 rfl) ?_
      refine xJ.putI (o_Book_addName 33 rfl) f_Book_55 rfl rfl rfl ?_
      replace h := h _ rfl
      refine xJ.aload_n (o_Book_addName 34 rfl) rfl ?_
      refine xJ.getfield (o_Book_addName 35 rfl) f_Book_23 rfl rfl ?_
      refine xJ.aload_n (o_Book_addName 36 rfl) rfl ?_
      refine xJ.getfield (o_Book_addName 37 rfl) f_Book_55 rfl rfl ?_
      refine xJ.iload (o_Book_addName 38 rfl) rfl ?_
      refine xJ.iastore (o_Book_addName 39 rfl) rfl h.1 ?_
      replace h := h.2
      replace h := h _ rfl
      exact xJ.return_ (o_Book_addName 40 rfl) rfl h
    · replace h := h.2 z
      refine xJ.aload_n (o_Book_addName 11 rfl) rfl ?_
      refine xJ.getfield (o_Book_addName 12 rfl) f_Book_19 rfl rfl ?_
      refine xJ.iload (o_Book_addName 13 rfl) rfl ?_
      refine xJ.aload_n (o_Book_addName 14 rfl) rfl ?_
      refine xJ.getfield (o_Book_addName 15 rfl) f_Book_61 rfl rfl ?_
      refine xJ.iload (o_Book_addName 16 rfl) rfl ?_
      refine xJ.baload (o_Book_addName 17 rfl) rfl h.1 ?_
      replace h := h.2
      refine xJ.bastore (o_Book_addName 18 rfl) rfl h.1 ?_
      replace h := h.2
      replace h := h _ rfl
      refine xJ.iincC (w := 1) (o_Book_addName 19 rfl) rfl (by decide) (by decide) ?_
      replace h := h _ rfl
      refine xJ.iincC (w := 1) (o_Book_addName 20 rfl) rfl (by decide) (by decide) ?_
      replace h := h _ rfl
      refine xJ.goto (tgt := 14) (o_Book_addName 21 rfl) (by decide) ?_
      exact xJ.lvs (by exact ⟨rfl, rfl, rfl, rfl, rfl, rfl, trivial⟩) (ih _ _ _ _ _ h)
set_option maxRecDepth 20000 in
theorem s_Book_addName {γ : xG1} {d : Nat} {Q : xO → xS → Prop} {σ : xS} {a2 : Int32} {a3 : Int32} {a4 : Int32} (h : wp_Book_addName Q σ a2 a3 a4) : xM (SHP, γ) Y_Book_addName (d + 0) [.ref 5, .ref 1, .int a2, .int a3, .int a4] σ Q := by
  refine xM.of (by decide) (Nat.le_of_ble_eq_true rfl) ?_
  refine xJ.aload_n (o_Book_addName 0 rfl) rfl ?_
  refine xJ.getfield (o_Book_addName 1 rfl) f_Book_23 rfl rfl ?_
  refine xJ.aload_n (o_Book_addName 2 rfl) rfl ?_
  refine xJ.getfield (o_Book_addName 3 rfl) f_Book_55 rfl rfl ?_
  refine xJ.iaload (o_Book_addName 4 rfl) rfl h.1 ?_
  replace h := h.2
  refine xJ.istore (o_Book_addName 5 rfl) (by decide) ?_
  replace h := h _ rfl
  refine xJ.iload_n (o_Book_addName 6 rfl) rfl ?_
  refine xJ.istore (o_Book_addName 7 rfl) (by decide) ?_
  obtain ⟨m, h⟩ := h
  exact xJ.lvs (by exact ⟨rfl, rfl, rfl, rfl, rfl, rfl, trivial⟩) (sw_Book_addName_14 m _ _ _ _ _ h)
def wp_Reader_make (Q : xO → xS → Prop) (σ : xS) (a1 : Int32) (a2 : Int32) (a3 : Int32) (a4 : Int32) (a5 : Int64) : Prop :=
  (((xi σ 6 9) < 2000 → ((a4 ≤ (100000 - (xi σ 6 10)) → (∀ s1 : xS, s1 = xpi σ 6 10 ((xi σ 6 10) + a4) → wp_Terms_add (xqi (fun r3 u2 => Q (.inl (some (.int r3))) u2) (fun n u => Q (.inr n) u)) s1 a2 a3 a5)) ∧ (¬ a4 ≤ (100000 - (xi σ 6 10)) → wp_Text_fail (xqi (fun r5 u4 => Q (.inl (some (.int r5))) u4) (fun n u => Q (.inr n) u)) σ 12 a1))) ∧ (¬ (xi σ 6 9) < 2000 → wp_Text_fail (xqi (fun r7 u6 => Q (.inl (some (.int r7))) u6) (fun n u => Q (.inr n) u)) σ 11 a1))
set_option maxRecDepth 20000 in
theorem s_Reader_make {γ : xG1} {d : Nat} {Q : xO → xS → Prop} {σ : xS} {a1 : Int32} {a2 : Int32} {a3 : Int32} {a4 : Int32} {a5 : Int64} (h : wp_Reader_make Q σ a1 a2 a3 a4 a5) : xM (SHP, γ) Y_Reader_make (d + 10) [.ref 24, .int a1, .int a2, .int a3, .int a4, .long a5] σ Q := by
  refine xM.of (by decide) (Nat.le_of_ble_eq_true rfl) ?_
  refine xJ.aload_n (o_Reader_make 0 rfl) rfl ?_
  refine xJ.getfield (o_Reader_make 1 rfl) f_Reader_42 rfl rfl ?_
  refine xJ.getfield (o_Reader_make 2 rfl) f_Reader_232 rfl rfl ?_
  refine xJ.sipush (v := 2000) (o_Reader_make 3 rfl) (by decide) ?_
  refine xJ.icmp_lt (tgt := 24) (o_Reader_make 4 rfl) (by decide) (fun z => ?_) (fun z => ?_)
  · replace h := h.1 z
    refine xJ.iload (o_Reader_make 11 rfl) rfl ?_
    refine xJ.ldc (v := 100000) (o_Reader_make 12 rfl) k_Reader_235 ?_
    refine xJ.aload_n (o_Reader_make 13 rfl) rfl ?_
    refine xJ.getfield (o_Reader_make 14 rfl) f_Reader_42 rfl rfl ?_
    refine xJ.getfield (o_Reader_make 15 rfl) f_Reader_236 rfl rfl ?_
    refine xJ.isub (o_Reader_make 16 rfl) ?_
    refine xJ.icmp_le (tgt := 50) (o_Reader_make 17 rfl) (by decide) (fun z => ?_) (fun z => ?_)
    · replace h := h.1 z
      refine xJ.aload_n (o_Reader_make 24 rfl) rfl ?_
      refine xJ.getfield (o_Reader_make 25 rfl) f_Reader_42 rfl rfl ?_
      refine xJ.dup (o_Reader_make 26 rfl) rfl ?_
      refine xJ.getfield (o_Reader_make 27 rfl) f_Reader_236 rfl rfl ?_
      refine xJ.iload (o_Reader_make 28 rfl) rfl ?_
      refine xJ.iadd (o_Reader_make 29 rfl) ?_
      refine xJ.putI (o_Reader_make 30 rfl) f_Reader_236 rfl rfl rfl ?_
      replace h := h _ rfl
      refine xJ.aload_n (o_Reader_make 31 rfl) rfl ?_
      refine xJ.getfield (o_Reader_make 32 rfl) f_Reader_42 rfl rfl ?_
      refine xJ.iload_n (o_Reader_make 33 rfl) rfl ?_
      refine xJ.iload_n (o_Reader_make 34 rfl) rfl ?_
      refine xJ.lload (o_Reader_make 35 rfl) rfl ?_
      refine xJ.callV (Y' := Y_Terms_add) (o_Reader_make 36 rfl) m_Reader_239 y_Terms_add im_Terms_add se_Terms_add rfl rfl (s_Terms_add h) rfl rfl (Nat.le_of_ble_eq_true rfl) (fun _ hx => by cases hx) (fun v u q => ?_) (fun n u q => q)
      obtain ⟨r, rfl, h⟩ := xqi_get q
      exact xJ.ireturn (o_Reader_make 37 rfl) rfl h
    · replace h := h.2 z
      refine xJ.aload_n (o_Reader_make 18 rfl) rfl ?_
      refine xJ.getfield (o_Reader_make 19 rfl) f_Reader_28 rfl rfl ?_
      refine xJ.bipush (v := 12) (o_Reader_make 20 rfl) (by decide) ?_
      refine xJ.iload_n (o_Reader_make 21 rfl) rfl ?_
      refine xJ.callV (Y' := Y_Text_fail) (o_Reader_make 22 rfl) m_Reader_136 y_Text_fail im_Text_fail se_Text_fail rfl rfl (s_Text_fail h) rfl rfl (Nat.le_of_ble_eq_true rfl) (fun _ hx => by cases hx) (fun v u q => ?_) (fun n u q => q)
      obtain ⟨r, rfl, h⟩ := xqi_get q
      exact xJ.ireturn (o_Reader_make 23 rfl) rfl h
  · replace h := h.2 z
    refine xJ.aload_n (o_Reader_make 5 rfl) rfl ?_
    refine xJ.getfield (o_Reader_make 6 rfl) f_Reader_28 rfl rfl ?_
    refine xJ.bipush (v := 11) (o_Reader_make 7 rfl) (by decide) ?_
    refine xJ.iload_n (o_Reader_make 8 rfl) rfl ?_
    refine xJ.callV (Y' := Y_Text_fail) (o_Reader_make 9 rfl) m_Reader_136 y_Text_fail im_Text_fail se_Text_fail rfl rfl (s_Text_fail h) rfl rfl (Nat.le_of_ble_eq_true rfl) (fun _ hx => by cases hx) (fun v u q => ?_) (fun n u q => q)
    obtain ⟨r, rfl, h⟩ := xqi_get q
    exact xJ.ireturn (o_Reader_make 10 rfl) rfl h
def wp_Reader_numeral (Q : xO → xS → Prop) (σ : xS)  : Prop :=
  wp_Text_next (xqv (fun u1 => (((xi u1 1 9) = 2 → wp_Text_numeral (xql (fun r4 u3 => (((lg_cmp r4 2147483647) ≤ 0 → Q (.inl (some (.int r4.toInt32))) u3) ∧ (¬ (lg_cmp r4 2147483647) ≤ 0 → wp_Text_fail (xqi (fun r6 u5 => Q (.inl (some (.int r6))) u5) (fun n u => Q (.inr n) u)) u3 7 (xi u3 1 10)))) (fun n u => Q (.inr n) u)) u1 ) ∧ (¬ (xi u1 1 9) = 2 → wp_Text_failHere (xqi (fun r8 u7 => Q (.inl (some (.int r8))) u7) (fun n u => Q (.inr n) u)) u1 ))) (fun n u => Q (.inr n) u)) σ 
set_option maxRecDepth 20000 in
theorem s_Reader_numeral {γ : xG1} {d : Nat} {Q : xO → xS → Prop} {σ : xS}  (h : wp_Reader_numeral Q σ ) : xM (SHP, γ) Y_Reader_numeral (d + 10) [.ref 24] σ Q := by
  refine xM.of (by decide) (Nat.le_of_ble_eq_true rfl) ?_
  refine xJ.aload_n (o_Reader_numeral 0 rfl) rfl ?_
  refine xJ.getfield (o_Reader_numeral 1 rfl) f_Reader_28 rfl rfl ?_
  refine xJ.callV (Y' := Y_Text_next) (o_Reader_numeral 2 rfl) m_Reader_79 y_Text_next im_Text_next se_Text_next rfl rfl (s_Text_next h) rfl rfl (Nat.le_of_ble_eq_true rfl) (fun _ hx => by cases hx) (fun v u q => ?_) (fun n u q => q)
  obtain ⟨rfl, h⟩ := xqv_get q
  refine xJ.aload_n (o_Reader_numeral 3 rfl) rfl ?_
  refine xJ.getfield (o_Reader_numeral 4 rfl) f_Reader_28 rfl rfl ?_
  refine xJ.getfield (o_Reader_numeral 5 rfl) f_Reader_97 rfl rfl ?_
  refine xJ.iconst (v := 2) (o_Reader_numeral 6 rfl) (by decide) ?_
  refine xJ.icmp_eq (tgt := 26) (o_Reader_numeral 7 rfl) (by decide) (fun z => ?_) (fun z => ?_)
  · replace h := h.1 z
    refine xJ.aload_n (o_Reader_numeral 12 rfl) rfl ?_
    refine xJ.getfield (o_Reader_numeral 13 rfl) f_Reader_28 rfl rfl ?_
    refine xJ.callV (Y' := Y_Text_numeral) (o_Reader_numeral 14 rfl) m_Reader_166 y_Text_numeral im_Text_numeral se_Text_numeral rfl rfl (s_Text_numeral h) rfl rfl (Nat.le_of_ble_eq_true rfl) (fun _ hx => by cases hx) (fun v u q => ?_) (fun n u q => q)
    obtain ⟨r, rfl, h⟩ := xql_get q
    refine xJ.lstore_n (o_Reader_numeral 15 rfl) (by decide) ?_
    refine xJ.lload_n (o_Reader_numeral 16 rfl) rfl ?_
    refine xJ.ldc2 (v := 2147483647) (o_Reader_numeral 17 rfl) k_Reader_171 ?_
    refine xJ.lcmp (o_Reader_numeral 18 rfl) ?_
    refine xJ.if_le (tgt := 59) (o_Reader_numeral 19 rfl) (by decide) (fun z => ?_) (fun z => ?_)
    · replace h := h.1 z
      refine xJ.lload_n (o_Reader_numeral 28 rfl) rfl ?_
      refine xJ.l2i (o_Reader_numeral 29 rfl) rfl ?_
      exact xJ.ireturn (o_Reader_numeral 30 rfl) rfl h
    · replace h := h.2 z
      refine xJ.aload_n (o_Reader_numeral 20 rfl) rfl ?_
      refine xJ.getfield (o_Reader_numeral 21 rfl) f_Reader_28 rfl rfl ?_
      refine xJ.bipush (v := 7) (o_Reader_numeral 22 rfl) (by decide) ?_
      refine xJ.aload_n (o_Reader_numeral 23 rfl) rfl ?_
      refine xJ.getfield (o_Reader_numeral 24 rfl) f_Reader_28 rfl rfl ?_
      refine xJ.getfield (o_Reader_numeral 25 rfl) f_Reader_103 rfl rfl ?_
      refine xJ.callV (Y' := Y_Text_fail) (o_Reader_numeral 26 rfl) m_Reader_136 y_Text_fail im_Text_fail se_Text_fail rfl rfl (s_Text_fail h) rfl rfl (Nat.le_of_ble_eq_true rfl) (fun _ hx => by cases hx) (fun v u q => ?_) (fun n u q => q)
      obtain ⟨r, rfl, h⟩ := xqi_get q
      exact xJ.ireturn (o_Reader_numeral 27 rfl) rfl h
  · replace h := h.2 z
    refine xJ.aload_n (o_Reader_numeral 8 rfl) rfl ?_
    refine xJ.getfield (o_Reader_numeral 9 rfl) f_Reader_28 rfl rfl ?_
    refine xJ.callV (Y' := Y_Text_failHere) (o_Reader_numeral 10 rfl) m_Reader_94 y_Text_failHere im_Text_failHere se_Text_failHere rfl rfl (s_Text_failHere h) rfl rfl (Nat.le_of_ble_eq_true rfl) (fun _ hx => by cases hx) (fun v u q => ?_) (fun n u q => q)
    obtain ⟨r, rfl, h⟩ := xqi_get q
    exact xJ.ireturn (o_Reader_numeral 11 rfl) rfl h
def wp_Reader_expectReserved (Q : xO → xS → Prop) (σ : xS) (a1 : Int32) : Prop :=
  wp_Text_next (xqv (fun u1 => (((xi u1 1 12) = a1 → Q (.inl none) u1) ∧ (¬ (xi u1 1 12) = a1 → wp_Text_failHere (xqi (fun r4 u3 => Q (.inl none) u3) (fun n u => Q (.inr n) u)) u1 ))) (fun n u => Q (.inr n) u)) σ 
set_option maxRecDepth 20000 in
theorem s_Reader_expectReserved {γ : xG1} {d : Nat} {Q : xO → xS → Prop} {σ : xS} {a1 : Int32} (h : wp_Reader_expectReserved Q σ a1) : xM (SHP, γ) Y_Reader_expectReserved (d + 10) [.ref 24, .int a1] σ Q := by
  refine xM.of (by decide) (Nat.le_of_ble_eq_true rfl) ?_
  refine xJ.aload_n (o_Reader_expectReserved 0 rfl) rfl ?_
  refine xJ.getfield (o_Reader_expectReserved 1 rfl) f_Reader_28 rfl rfl ?_
  refine xJ.callV (Y' := Y_Text_next) (o_Reader_expectReserved 2 rfl) m_Reader_79 y_Text_next im_Text_next se_Text_next rfl rfl (s_Text_next h) rfl rfl (Nat.le_of_ble_eq_true rfl) (fun _ hx => by cases hx) (fun v u q => ?_) (fun n u q => q)
  obtain ⟨rfl, h⟩ := xqv_get q
  refine xJ.aload_n (o_Reader_expectReserved 3 rfl) rfl ?_
  refine xJ.getfield (o_Reader_expectReserved 4 rfl) f_Reader_28 rfl rfl ?_
  refine xJ.getfield (o_Reader_expectReserved 5 rfl) f_Reader_82 rfl rfl ?_
  refine xJ.iload_n (o_Reader_expectReserved 6 rfl) rfl ?_
  refine xJ.icmp_eq (tgt := 26) (o_Reader_expectReserved 7 rfl) (by decide) (fun z => ?_) (fun z => ?_)
  · replace h := h.1 z
    exact xJ.return_ (o_Reader_expectReserved 12 rfl) rfl h
  · replace h := h.2 z
    refine xJ.aload_n (o_Reader_expectReserved 8 rfl) rfl ?_
    refine xJ.getfield (o_Reader_expectReserved 9 rfl) f_Reader_28 rfl rfl ?_
    refine xJ.callV (Y' := Y_Text_failHere) (o_Reader_expectReserved 10 rfl) m_Reader_94 y_Text_failHere im_Text_failHere se_Text_failHere rfl rfl (s_Text_failHere h) rfl rfl (Nat.le_of_ble_eq_true rfl) (fun _ hx => by cases hx) (fun v u q => ?_) (fun n u q => q)
    obtain ⟨r, rfl, h⟩ := xqi_get q
    refine xJ.pop (o_Reader_expectReserved 11 rfl) rfl ?_
    exact xJ.return_ (o_Reader_expectReserved 12 rfl) rfl h
def w_Reader_width_20 (Q : xO → xS → Prop) (σ : xS) : Prop :=
  wp_Text_fail (xqi (fun r6 u5 => Q (.inl (some (.int r6))) u5) (fun n u => Q (.inr n) u)) σ 7 (xi σ 1 10)
def wp_Reader_width (Q : xO → xS → Prop) (σ : xS) (a1 : Int32) : Prop :=
  wp_Reader_expectReserved (xqv (fun u1 => wp_Reader_numeral (xqi (fun r4 u3 => ((r4 < 1 → w_Reader_width_20 Q  u3) ∧ (¬ r4 < 1 → ((r4 ≤ a1 → wp_Reader_expect (xqv (fun u7 => Q (.inl (some (.int r4))) u7) (fun n u => Q (.inr n) u)) u3 1) ∧ (¬ r4 ≤ a1 → w_Reader_width_20 Q  u3))))) (fun n u => Q (.inr n) u)) u1 ) (fun n u => Q (.inr n) u)) σ 5
set_option maxRecDepth 20000 in
theorem sw_Reader_width_20 {γ : xG1} {d b0 : Nat} {Q : xO → xS → Prop} {σ : xS} (h : w_Reader_width_20 Q  σ) : xJ (SHP, γ) Y_Reader_width (d + 11) b0 20 [(0, .ref 24)] [] σ Q := by
  refine xJ.aload_n (o_Reader_width 12 rfl) rfl ?_
  refine xJ.getfield (o_Reader_width 13 rfl) f_Reader_28 rfl rfl ?_
  refine xJ.bipush (v := 7) (o_Reader_width 14 rfl) (by decide) ?_
  refine xJ.aload_n (o_Reader_width 15 rfl) rfl ?_
  refine xJ.getfield (o_Reader_width 16 rfl) f_Reader_28 rfl rfl ?_
  refine xJ.getfield (o_Reader_width 17 rfl) f_Reader_103 rfl rfl ?_
  refine xJ.callV (Y' := Y_Text_fail) (o_Reader_width 18 rfl) m_Reader_136 y_Text_fail im_Text_fail se_Text_fail rfl rfl (s_Text_fail h) rfl rfl (Nat.le_of_ble_eq_true rfl) (fun _ hx => by cases hx) (fun v u q => ?_) (fun n u q => q)
  obtain ⟨r, rfl, h⟩ := xqi_get q
  exact xJ.ireturn (o_Reader_width 19 rfl) rfl h
set_option maxRecDepth 20000 in
theorem s_Reader_width {γ : xG1} {d : Nat} {Q : xO → xS → Prop} {σ : xS} {a1 : Int32} (h : wp_Reader_width Q σ a1) : xM (SHP, γ) Y_Reader_width (d + 11) [.ref 24, .int a1] σ Q := by
  refine xM.of (by decide) (Nat.le_of_ble_eq_true rfl) ?_
  refine xJ.aload_n (o_Reader_width 0 rfl) rfl ?_
  refine xJ.iconst (v := 5) (o_Reader_width 1 rfl) (by decide) ?_
  refine xJ.callV (Y' := Y_Reader_expectReserved) (o_Reader_width 2 rfl) m_Reader_157 y_Reader_expectReserved im_Reader_expectReserved se_Reader_expectReserved rfl rfl (s_Reader_expectReserved h) rfl rfl (Nat.le_of_ble_eq_true rfl) (fun _ hx => by cases hx) (fun v u q => ?_) (fun n u q => q)
  obtain ⟨rfl, h⟩ := xqv_get q
  refine xJ.aload_n (o_Reader_width 3 rfl) rfl ?_
  refine xJ.callV (Y' := Y_Reader_numeral) (o_Reader_width 4 rfl) m_Reader_163 y_Reader_numeral im_Reader_numeral se_Reader_numeral rfl rfl (s_Reader_numeral h) rfl rfl (Nat.le_of_ble_eq_true rfl) (fun _ hx => by cases hx) (fun v u q => ?_) (fun n u q => q)
  obtain ⟨r, rfl, h⟩ := xqi_get q
  refine xJ.istore_n (o_Reader_width 5 rfl) (by decide) ?_
  refine xJ.iload_n (o_Reader_width 6 rfl) rfl ?_
  refine xJ.iconst (v := 1) (o_Reader_width 7 rfl) (by decide) ?_
  refine xJ.icmp_lt (tgt := 20) (o_Reader_width 8 rfl) (by decide) (fun z => ?_) (fun z => ?_)
  · replace h := h.1 z
    exact xJ.lvs (by exact ⟨rfl, trivial⟩) (sw_Reader_width_20 h)
  · replace h := h.2 z
    refine xJ.iload_n (o_Reader_width 9 rfl) rfl ?_
    refine xJ.iload_n (o_Reader_width 10 rfl) rfl ?_
    refine xJ.icmp_le (tgt := 37) (o_Reader_width 11 rfl) (by decide) (fun z => ?_) (fun z => ?_)
    · replace h := h.1 z
      refine xJ.aload_n (o_Reader_width 20 rfl) rfl ?_
      refine xJ.iconst (v := 1) (o_Reader_width 21 rfl) (by decide) ?_
      refine xJ.callV (Y' := Y_Reader_expect) (o_Reader_width 22 rfl) m_Reader_75 y_Reader_expect im_Reader_expect se_Reader_expect rfl rfl (s_Reader_expect h) rfl rfl (Nat.le_of_ble_eq_true rfl) (fun _ hx => by cases hx) (fun v u q => ?_) (fun n u q => q)
      obtain ⟨rfl, h⟩ := xqv_get q
      refine xJ.iload_n (o_Reader_width 23 rfl) rfl ?_
      exact xJ.ireturn (o_Reader_width 24 rfl) rfl h
    · replace h := h.2 z
      exact xJ.lvs (by exact ⟨rfl, trivial⟩) (sw_Reader_width_20 h)
def wp_Reader_sort (Q : xO → xS → Prop) (σ : xS)  : Prop :=
  wp_Text_next (xqv (fun u1 => ((¬ (xi u1 1 12) = 3 → (((xi u1 1 9) = 0 → wp_Text_next (xqv (fun u3 => ((¬ (xi u3 1 12) = 4 → (((xi u3 1 12) = 6 → wp_Reader_expect (xqv (fun u5 => wp_Reader_expectReserved (xqv (fun u7 => wp_Reader_width (xqi (fun r10 u9 => wp_Reader_expect (xqv (fun u11 => wp_Reader_expectReserved (xqv (fun u13 => wp_Reader_width (xqi (fun r16 u15 => wp_Reader_expect (xqv (fun u17 => wp_Sorts_array (xqi (fun r20 u19 => Q (.inl (some (.int r20))) u19) (fun n u => Q (.inr n) u)) u17 r10 r16) (fun n u => Q (.inr n) u)) u15 1) (fun n u => Q (.inr n) u)) u13 64) (fun n u => Q (.inr n) u)) u11 4) (fun n u => Q (.inr n) u)) u9 0) (fun n u => Q (.inr n) u)) u7 6) (fun n u => Q (.inr n) u)) u5 4) (fun n u => Q (.inr n) u)) u3 0) ∧ (¬ (xi u3 1 12) = 6 → wp_Text_failHere (xqi (fun r22 u21 => Q (.inl (some (.int r22))) u21) (fun n u => Q (.inr n) u)) u3 ))) ∧ ((xi u3 1 12) = 4 → wp_Reader_width (xqi (fun r24 u23 => Q (.inl (some (.int r24))) u23) (fun n u => Q (.inr n) u)) u3 64))) (fun n u => Q (.inr n) u)) u1 ) ∧ (¬ (xi u1 1 9) = 0 → wp_Text_failHere (xqi (fun r26 u25 => Q (.inl (some (.int r26))) u25) (fun n u => Q (.inr n) u)) u1 ))) ∧ ((xi u1 1 12) = 3 → Q (.inl (some (.int 0))) u1))) (fun n u => Q (.inr n) u)) σ 
set_option maxRecDepth 20000 in
theorem s_Reader_sort {γ : xG1} {d : Nat} {Q : xO → xS → Prop} {σ : xS}  (h : wp_Reader_sort Q σ ) : xM (SHP, γ) Y_Reader_sort (d + 12) [.ref 24] σ Q := by
  refine xM.of (by decide) (Nat.le_of_ble_eq_true rfl) ?_
  refine xJ.aload_n (o_Reader_sort 0 rfl) rfl ?_
  refine xJ.getfield (o_Reader_sort 1 rfl) f_Reader_28 rfl rfl ?_
  refine xJ.callV (Y' := Y_Text_next) (o_Reader_sort 2 rfl) m_Reader_79 y_Text_next im_Text_next se_Text_next rfl rfl (s_Text_next h) rfl rfl (Nat.le_of_ble_eq_true rfl) (fun _ hx => by cases hx) (fun v u q => ?_) (fun n u q => q)
  obtain ⟨rfl, h⟩ := xqv_get q
  refine xJ.aload_n (o_Reader_sort 3 rfl) rfl ?_
  refine xJ.getfield (o_Reader_sort 4 rfl) f_Reader_28 rfl rfl ?_
  refine xJ.getfield (o_Reader_sort 5 rfl) f_Reader_82 rfl rfl ?_
  refine xJ.iconst (v := 3) (o_Reader_sort 6 rfl) (by decide) ?_
  refine xJ.icmp_ne (tgt := 20) (o_Reader_sort 7 rfl) (by decide) (fun z => ?_) (fun z => ?_)
  · replace h := h.1 z
    refine xJ.aload_n (o_Reader_sort 10 rfl) rfl ?_
    refine xJ.getfield (o_Reader_sort 11 rfl) f_Reader_28 rfl rfl ?_
    refine xJ.getfield (o_Reader_sort 12 rfl) f_Reader_97 rfl rfl ?_
    refine xJ.if_eq (tgt := 38) (o_Reader_sort 13 rfl) (by decide) (fun z => ?_) (fun z => ?_)
    · replace h := h.1 z
      refine xJ.aload_n (o_Reader_sort 18 rfl) rfl ?_
      refine xJ.getfield (o_Reader_sort 19 rfl) f_Reader_28 rfl rfl ?_
      refine xJ.callV (Y' := Y_Text_next) (o_Reader_sort 20 rfl) m_Reader_79 y_Text_next im_Text_next se_Text_next rfl rfl (s_Text_next h) rfl rfl (Nat.le_of_ble_eq_true rfl) (fun _ hx => by cases hx) (fun v u q => ?_) (fun n u q => q)
      obtain ⟨rfl, h⟩ := xqv_get q
      refine xJ.aload_n (o_Reader_sort 21 rfl) rfl ?_
      refine xJ.getfield (o_Reader_sort 22 rfl) f_Reader_28 rfl rfl ?_
      refine xJ.getfield (o_Reader_sort 23 rfl) f_Reader_82 rfl rfl ?_
      refine xJ.iconst (v := 4) (o_Reader_sort 24 rfl) (by decide) ?_
      refine xJ.icmp_ne (tgt := 63) (o_Reader_sort 25 rfl) (by decide) (fun z => ?_) (fun z => ?_)
      · replace h := h.1 z
        refine xJ.aload_n (o_Reader_sort 30 rfl) rfl ?_
        refine xJ.getfield (o_Reader_sort 31 rfl) f_Reader_28 rfl rfl ?_
        refine xJ.getfield (o_Reader_sort 32 rfl) f_Reader_82 rfl rfl ?_
        refine xJ.bipush (v := 6) (o_Reader_sort 33 rfl) (by decide) ?_
        refine xJ.icmp_eq (tgt := 83) (o_Reader_sort 34 rfl) (by decide) (fun z => ?_) (fun z => ?_)
        · replace h := h.1 z
          refine xJ.aload_n (o_Reader_sort 39 rfl) rfl ?_
          refine xJ.iconst (v := 0) (o_Reader_sort 40 rfl) (by decide) ?_
          refine xJ.callV (Y' := Y_Reader_expect) (o_Reader_sort 41 rfl) m_Reader_75 y_Reader_expect im_Reader_expect se_Reader_expect rfl rfl (s_Reader_expect h) rfl rfl (Nat.le_of_ble_eq_true rfl) (fun _ hx => by cases hx) (fun v u q => ?_) (fun n u q => q)
          obtain ⟨rfl, h⟩ := xqv_get q
          refine xJ.aload_n (o_Reader_sort 42 rfl) rfl ?_
          refine xJ.iconst (v := 4) (o_Reader_sort 43 rfl) (by decide) ?_
          refine xJ.callV (Y' := Y_Reader_expectReserved) (o_Reader_sort 44 rfl) m_Reader_157 y_Reader_expectReserved im_Reader_expectReserved se_Reader_expectReserved rfl rfl (s_Reader_expectReserved h) rfl rfl (Nat.le_of_ble_eq_true rfl) (fun _ hx => by cases hx) (fun v u q => ?_) (fun n u q => q)
          obtain ⟨rfl, h⟩ := xqv_get q
          refine xJ.aload_n (o_Reader_sort 45 rfl) rfl ?_
          refine xJ.bipush (v := 6) (o_Reader_sort 46 rfl) (by decide) ?_
          refine xJ.callV (Y' := Y_Reader_width) (o_Reader_sort 47 rfl) m_Reader_154 y_Reader_width im_Reader_width se_Reader_width rfl rfl (s_Reader_width h) rfl rfl (Nat.le_of_ble_eq_true rfl) (fun _ hx => by cases hx) (fun v u q => ?_) (fun n u q => q)
          obtain ⟨r, rfl, h⟩ := xqi_get q
          refine xJ.istore_n (o_Reader_sort 48 rfl) (by decide) ?_
          refine xJ.aload_n (o_Reader_sort 49 rfl) rfl ?_
          refine xJ.iconst (v := 0) (o_Reader_sort 50 rfl) (by decide) ?_
          refine xJ.callV (Y' := Y_Reader_expect) (o_Reader_sort 51 rfl) m_Reader_75 y_Reader_expect im_Reader_expect se_Reader_expect rfl rfl (s_Reader_expect h) rfl rfl (Nat.le_of_ble_eq_true rfl) (fun _ hx => by cases hx) (fun v u q => ?_) (fun n u q => q)
          obtain ⟨rfl, h⟩ := xqv_get q
          refine xJ.aload_n (o_Reader_sort 52 rfl) rfl ?_
          refine xJ.iconst (v := 4) (o_Reader_sort 53 rfl) (by decide) ?_
          refine xJ.callV (Y' := Y_Reader_expectReserved) (o_Reader_sort 54 rfl) m_Reader_157 y_Reader_expectReserved im_Reader_expectReserved se_Reader_expectReserved rfl rfl (s_Reader_expectReserved h) rfl rfl (Nat.le_of_ble_eq_true rfl) (fun _ hx => by cases hx) (fun v u q => ?_) (fun n u q => q)
          obtain ⟨rfl, h⟩ := xqv_get q
          refine xJ.aload_n (o_Reader_sort 55 rfl) rfl ?_
          refine xJ.bipush (v := 64) (o_Reader_sort 56 rfl) (by decide) ?_
          refine xJ.callV (Y' := Y_Reader_width) (o_Reader_sort 57 rfl) m_Reader_154 y_Reader_width im_Reader_width se_Reader_width rfl rfl (s_Reader_width h) rfl rfl (Nat.le_of_ble_eq_true rfl) (fun _ hx => by cases hx) (fun v u q => ?_) (fun n u q => q)
          obtain ⟨r, rfl, h⟩ := xqi_get q
          refine xJ.istore_n (o_Reader_sort 58 rfl) (by decide) ?_
          refine xJ.aload_n (o_Reader_sort 59 rfl) rfl ?_
          refine xJ.iconst (v := 1) (o_Reader_sort 60 rfl) (by decide) ?_
          refine xJ.callV (Y' := Y_Reader_expect) (o_Reader_sort 61 rfl) m_Reader_75 y_Reader_expect im_Reader_expect se_Reader_expect rfl rfl (s_Reader_expect h) rfl rfl (Nat.le_of_ble_eq_true rfl) (fun _ hx => by cases hx) (fun v u q => ?_) (fun n u q => q)
          obtain ⟨rfl, h⟩ := xqv_get q
          refine xJ.iload_n (o_Reader_sort 62 rfl) rfl ?_
          refine xJ.iload_n (o_Reader_sort 63 rfl) rfl ?_
          refine xJ.callS (Y' := Y_Sorts_array) (o_Reader_sort 64 rfl) m_Reader_160 y_Sorts_array st_Sorts_array (s_Sorts_array h) rfl rfl (Nat.le_of_ble_eq_true rfl) (fun _ hx => by cases hx) (fun v u q => ?_) (fun n u q => q)
          obtain ⟨r, rfl, h⟩ := xqi_get q
          exact xJ.ireturn (o_Reader_sort 65 rfl) rfl h
        · replace h := h.2 z
          refine xJ.aload_n (o_Reader_sort 35 rfl) rfl ?_
          refine xJ.getfield (o_Reader_sort 36 rfl) f_Reader_28 rfl rfl ?_
          refine xJ.callV (Y' := Y_Text_failHere) (o_Reader_sort 37 rfl) m_Reader_94 y_Text_failHere im_Text_failHere se_Text_failHere rfl rfl (s_Text_failHere h) rfl rfl (Nat.le_of_ble_eq_true rfl) (fun _ hx => by cases hx) (fun v u q => ?_) (fun n u q => q)
          obtain ⟨r, rfl, h⟩ := xqi_get q
          exact xJ.ireturn (o_Reader_sort 38 rfl) rfl h
      · replace h := h.2 z
        refine xJ.aload_n (o_Reader_sort 26 rfl) rfl ?_
        refine xJ.bipush (v := 64) (o_Reader_sort 27 rfl) (by decide) ?_
        refine xJ.callV (Y' := Y_Reader_width) (o_Reader_sort 28 rfl) m_Reader_154 y_Reader_width im_Reader_width se_Reader_width rfl rfl (s_Reader_width h) rfl rfl (Nat.le_of_ble_eq_true rfl) (fun _ hx => by cases hx) (fun v u q => ?_) (fun n u q => q)
        obtain ⟨r, rfl, h⟩ := xqi_get q
        exact xJ.ireturn (o_Reader_sort 29 rfl) rfl h
    · replace h := h.2 z
      refine xJ.aload_n (o_Reader_sort 14 rfl) rfl ?_
      refine xJ.getfield (o_Reader_sort 15 rfl) f_Reader_28 rfl rfl ?_
      refine xJ.callV (Y' := Y_Text_failHere) (o_Reader_sort 16 rfl) m_Reader_94 y_Text_failHere im_Text_failHere se_Text_failHere rfl rfl (s_Text_failHere h) rfl rfl (Nat.le_of_ble_eq_true rfl) (fun _ hx => by cases hx) (fun v u q => ?_) (fun n u q => q)
      obtain ⟨r, rfl, h⟩ := xqi_get q
      exact xJ.ireturn (o_Reader_sort 17 rfl) rfl h
  · replace h := h.2 z
    refine xJ.iconst (v := 0) (o_Reader_sort 8 rfl) (by decide) ?_
    exact xJ.ireturn (o_Reader_sort 9 rfl) rfl h
def w_Book_isName_13 (Q : xO → xS → Prop) : Nat → Int32 → Int32 → Int32 → xS → Prop
  | 0 => fun _ _ _ _ => False
  | n + 1 => fun a1 a3 a4 σ =>
    (vp_in (a1 + 1) 501 ∧ (((xi σ 17 (a1 + 1).toNatClampNeg) ≤ a4 → Q (.inl (some (.int 1))) σ) ∧ (¬ (xi σ 17 (a1 + 1).toNatClampNeg) ≤ a4 → (vp_in a4 65536 ∧ (vp_in a3 65536 ∧ (((xi σ 16 a4.toNatClampNeg) = (xi σ 2 a3.toNatClampNeg) → (∀ x3 : Int32, x3 = a3 + 1 → (∀ x4 : Int32, x4 = a4 + 1 → w_Book_isName_13 Q n a1 x3 x4 σ))) ∧ (¬ (xi σ 16 a4.toNatClampNeg) = (xi σ 2 a3.toNatClampNeg) → Q (.inl (some (.int 0))) σ)))))))
def wp_Book_isName (Q : xO → xS → Prop) (σ : xS) (a1 : Int32) : Prop :=
  (∀ x1 : Int32, x1 = (xi σ 1 10) → (vp_in a1 501 ∧ (∀ x2 : Int32, x2 = (xi σ 17 a1.toNatClampNeg) → ∃ m, w_Book_isName_13 Q m a1 x1 x2 σ)))
set_option maxRecDepth 20000 in
theorem sw_Book_isName_13 {γ : xG1} {d b0 : Nat} {Q : xO → xS → Prop} : ∀ (n : Nat) (a1 : Int32) (a3 : Int32) (a4 : Int32) (σ : xS), w_Book_isName_13 Q n a1 a3 a4 σ → xJ (SHP, γ) Y_Book_isName (d + 0) b0 13 [(0, .ref 5), (1, .int a1), (2, .ref 1), (3, .int a3), (4, .int a4)] [] σ Q := by
  intro n
  induction n with
  | zero => intro a1 a3 a4 σ h; exact h.elim
  | succ n ih =>
    intro a1 a3 a4 σ h
    refine xJ.iload (o_Book_isName 8 rfl) rfl ?_
    refine xJ.aload_n (o_Book_isName 9 rfl) rfl ?_
    refine xJ.getfield (o_Book_isName 10 rfl) f_Book_23 rfl rfl ?_
    refine xJ.iload_n (o_Book_isName 11 rfl) rfl ?_
    refine xJ.iconst (v := 1) (o_Book_isName 12 rfl) (by decide) ?_
    refine xJ.iadd (o_Book_isName 13 rfl) ?_
    refine xJ.iaload (o_Book_isName 14 rfl) rfl h.1 ?_
    replace h := h.2
    refine xJ.icmp_ge (tgt := 53) (o_Book_isName 15 rfl) (by decide) (fun z => ?_) (fun z => ?_)
    · replace h := h.1 z
      refine xJ.iconst (v := 1) (o_Book_isName 30 rfl) (by decide) ?_
      exact xJ.zreturn (o_Book_isName 31 rfl) rfl (Or.inr rfl) h
    · replace h := h.2 z
      refine xJ.aload_n (o_Book_isName 16 rfl) rfl ?_
      refine xJ.getfield (o_Book_isName 17 rfl) f_Book_19 rfl rfl ?_
      refine xJ.iload (o_Book_isName 18 rfl) rfl ?_
      refine xJ.baload (o_Book_isName 19 rfl) rfl h.1 ?_
      replace h := h.2
      refine xJ.aload_n (o_Book_isName 20 rfl) rfl ?_
      refine xJ.getfield (o_Book_isName 21 rfl) f_Book_61 rfl rfl ?_
      refine xJ.iload_n (o_Book_isName 22 rfl) rfl ?_
      refine xJ.baload (o_Book_isName 23 rfl) rfl h.1 ?_
      replace h := h.2
      refine xJ.icmp_eq (tgt := 44) (o_Book_isName 24 rfl) (by decide) (fun z => ?_) (fun z => ?_)
      · replace h := h.1 z
        refine xJ.iincC (w := 1) (o_Book_isName 27 rfl) rfl (by decide) (by decide) ?_
        replace h := h _ rfl
        refine xJ.iincC (w := 1) (o_Book_isName 28 rfl) rfl (by decide) (by decide) ?_
        replace h := h _ rfl
        refine xJ.goto (tgt := 13) (o_Book_isName 29 rfl) (by decide) ?_
        exact xJ.lvs (by exact ⟨rfl, rfl, rfl, rfl, rfl, trivial⟩) (ih _ _ _ _ h)
      · replace h := h.2 z
        refine xJ.iconst (v := 0) (o_Book_isName 25 rfl) (by decide) ?_
        exact xJ.zreturn (o_Book_isName 26 rfl) rfl (Or.inl rfl) h
set_option maxRecDepth 20000 in
theorem s_Book_isName {γ : xG1} {d : Nat} {Q : xO → xS → Prop} {σ : xS} {a1 : Int32} (h : wp_Book_isName Q σ a1) : xM (SHP, γ) Y_Book_isName (d + 0) [.ref 5, .int a1, .ref 1] σ Q := by
  refine xM.of (by decide) (Nat.le_of_ble_eq_true rfl) ?_
  refine xJ.aload_n (o_Book_isName 0 rfl) rfl ?_
  refine xJ.getfield (o_Book_isName 1 rfl) f_Book_81 rfl rfl ?_
  refine xJ.istore_n (o_Book_isName 2 rfl) (by decide) ?_
  replace h := h _ rfl
  refine xJ.aload_n (o_Book_isName 3 rfl) rfl ?_
  refine xJ.getfield (o_Book_isName 4 rfl) f_Book_23 rfl rfl ?_
  refine xJ.iload_n (o_Book_isName 5 rfl) rfl ?_
  refine xJ.iaload (o_Book_isName 6 rfl) rfl h.1 ?_
  replace h := h.2
  refine xJ.istore (o_Book_isName 7 rfl) (by decide) ?_
  replace h := h _ rfl
  obtain ⟨m, h⟩ := h
  exact xJ.lvs (by exact ⟨rfl, rfl, rfl, rfl, rfl, trivial⟩) (sw_Book_isName_13 m _ _ _ _ h)
def w_Book_findName_2 (Q : xO → xS → Prop) : Nat → Int32 → xS → Prop
  | 0 => fun _ _ => False
  | n + 1 => fun a2 σ =>
    (((xi σ 5 4) ≤ a2 → Q (.inl (some (.int (-1)))) σ) ∧ (¬ (xi σ 5 4) ≤ a2 → (vp_in (a2 + 1) 501 ∧ (vp_in a2 501 ∧ (∀ x1 : Int32, x1 = ((xi σ 17 (a2 + 1).toNatClampNeg) - (xi σ 17 a2.toNatClampNeg)) → ((¬ x1 = ((xi σ 1 11) - (xi σ 1 10)) → (∀ x2 : Int32, x2 = a2 + 1 → w_Book_findName_2 Q n x2 σ)) ∧ (x1 = ((xi σ 1 11) - (xi σ 1 10)) → wp_Book_isName (xqi (fun r4 u3 => ((r4 = 0 → (∀ x5 : Int32, x5 = a2 + 1 → w_Book_findName_2 Q n x5 u3)) ∧ (¬ r4 = 0 → Q (.inl (some (.int a2))) u3))) (fun n u => Q (.inr n) u)) σ a2)))))))
def wp_Book_findName (Q : xO → xS → Prop) (σ : xS)  : Prop :=
  ∃ m, w_Book_findName_2 Q m 0 σ
set_option maxRecDepth 20000 in
theorem sw_Book_findName_2 {γ : xG1} {d b0 : Nat} {Q : xO → xS → Prop} : ∀ (n : Nat) (a2 : Int32) (σ : xS), w_Book_findName_2 Q n a2 σ → xJ (SHP, γ) Y_Book_findName (d + 1) b0 2 [(0, .ref 5), (1, .ref 1), (2, .int a2)] [] σ Q := by
  intro n
  induction n with
  | zero => intro a2 σ h; exact h.elim
  | succ n ih =>
    intro a2 σ h
    refine xJ.iload_n (o_Book_findName 2 rfl) rfl ?_
    refine xJ.aload_n (o_Book_findName 3 rfl) rfl ?_
    refine xJ.getfield (o_Book_findName 4 rfl) f_Book_55 rfl rfl ?_
    refine xJ.icmp_ge (tgt := 56) (o_Book_findName 5 rfl) (by decide) (fun z => ?_) (fun z => ?_)
    · replace h := h.1 z
      refine xJ.iconst (v := (-1)) (o_Book_findName 34 rfl) (by decide) ?_
      exact xJ.ireturn (o_Book_findName 35 rfl) rfl h
    · replace h := h.2 z
      refine xJ.aload_n (o_Book_findName 6 rfl) rfl ?_
      refine xJ.getfield (o_Book_findName 7 rfl) f_Book_23 rfl rfl ?_
      refine xJ.iload_n (o_Book_findName 8 rfl) rfl ?_
      refine xJ.iconst (v := 1) (o_Book_findName 9 rfl) (by decide) ?_
      refine xJ.iadd (o_Book_findName 10 rfl) ?_
      refine xJ.iaload (o_Book_findName 11 rfl) rfl h.1 ?_
      replace h := h.2
      refine xJ.aload_n (o_Book_findName 12 rfl) rfl ?_
      refine xJ.getfield (o_Book_findName 13 rfl) f_Book_23 rfl rfl ?_
      refine xJ.iload_n (o_Book_findName 14 rfl) rfl ?_
      refine xJ.iaload (o_Book_findName 15 rfl) rfl h.1 ?_
      replace h := h.2
      refine xJ.isub (o_Book_findName 16 rfl) ?_
      refine xJ.istore_n (o_Book_findName 17 rfl) (by decide) ?_
      replace h := h _ rfl
      refine xJ.iload_n (o_Book_findName 18 rfl) rfl ?_
      refine xJ.aload_n (o_Book_findName 19 rfl) rfl ?_
      refine xJ.getfield (o_Book_findName 20 rfl) f_Book_78 rfl rfl ?_
      refine xJ.aload_n (o_Book_findName 21 rfl) rfl ?_
      refine xJ.getfield (o_Book_findName 22 rfl) f_Book_81 rfl rfl ?_
      refine xJ.isub (o_Book_findName 23 rfl) ?_
      refine xJ.icmp_ne (tgt := 50) (o_Book_findName 24 rfl) (by decide) (fun z => ?_) (fun z => ?_)
      · replace h := h.1 z
        refine xJ.iincC (w := 1) (o_Book_findName 32 rfl) rfl (by decide) (by decide) ?_
        replace h := h _ rfl
        refine xJ.goto (tgt := 2) (o_Book_findName 33 rfl) (by decide) ?_
        exact xJ.lvs (by exact ⟨rfl, rfl, rfl, trivial⟩) (ih _ _ h)
      · replace h := h.2 z
        refine xJ.aload_n (o_Book_findName 25 rfl) rfl ?_
        refine xJ.iload_n (o_Book_findName 26 rfl) rfl ?_
        refine xJ.aload_n (o_Book_findName 27 rfl) rfl ?_
        refine xJ.callV (Y' := Y_Book_isName) (o_Book_findName 28 rfl) m_Book_84 y_Book_isName im_Book_isName se_Book_isName rfl rfl (s_Book_isName h) rfl rfl (Nat.le_of_ble_eq_true rfl) (fun _ hx => by cases hx) (fun v u q => ?_) (fun n u q => q)
        obtain ⟨r, rfl, h⟩ := xqi_get q
        refine xJ.if_eq (tgt := 50) (o_Book_findName 29 rfl) (by decide) (fun z => ?_) (fun z => ?_)
        · replace h := h.1 z
          refine xJ.iincC (w := 1) (o_Book_findName 32 rfl) rfl (by decide) (by decide) ?_
          replace h := h _ rfl
          refine xJ.goto (tgt := 2) (o_Book_findName 33 rfl) (by decide) ?_
          exact xJ.lvs (by exact ⟨rfl, rfl, rfl, trivial⟩) (ih _ _ h)
        · replace h := h.2 z
          refine xJ.iload_n (o_Book_findName 30 rfl) rfl ?_
          exact xJ.ireturn (o_Book_findName 31 rfl) rfl h
set_option maxRecDepth 20000 in
theorem s_Book_findName {γ : xG1} {d : Nat} {Q : xO → xS → Prop} {σ : xS}  (h : wp_Book_findName Q σ ) : xM (SHP, γ) Y_Book_findName (d + 1) [.ref 5, .ref 1] σ Q := by
  refine xM.of (by decide) (Nat.le_of_ble_eq_true rfl) ?_
  refine xJ.iconst (v := 0) (o_Book_findName 0 rfl) (by decide) ?_
  refine xJ.istore_n (o_Book_findName 1 rfl) (by decide) ?_
  obtain ⟨m, h⟩ := h
  exact xJ.lvs (by exact ⟨rfl, rfl, rfl, trivial⟩) (sw_Book_findName_2 m _ _ h)
def w_Reader_expectNewName_48 (Q : xO → xS → Prop) (σ : xS) : Prop :=
  wp_Book_hasRoomForName (xqi (fun r6 u5 => ((¬ r6 = 0 → Q (.inl none) u5) ∧ (r6 = 0 → wp_Text_fail (xqi (fun r8 u7 => Q (.inl none) u7) (fun n u => Q (.inr n) u)) u5 11 (xi u5 1 10)))) (fun n u => Q (.inr n) u)) σ ((xi σ 1 11) - (xi σ 1 10))
def w_Reader_expectNewName_31 (Q : xO → xS → Prop) (σ : xS) : Prop :=
  wp_Text_fail (xqi (fun r4 u3 => w_Reader_expectNewName_48 Q  u3) (fun n u => Q (.inr n) u)) σ 6 (xi σ 1 10)
def wp_Reader_expectNewName (Q : xO → xS → Prop) (σ : xS)  : Prop :=
  wp_Reader_expect (xqv (fun u1 => ((¬ (xi u1 1 12) = (-1) → w_Reader_expectNewName_31 Q  u1) ∧ ((xi u1 1 12) = (-1) → wp_Book_findName (xqi (fun r10 u9 => ((r10 = (-1) → w_Reader_expectNewName_48 Q  u9) ∧ (¬ r10 = (-1) → w_Reader_expectNewName_31 Q  u9))) (fun n u => Q (.inr n) u)) u1 ))) (fun n u => Q (.inr n) u)) σ 5
set_option maxRecDepth 20000 in
theorem sw_Reader_expectNewName_48 {γ : xG1} {d b0 : Nat} {Q : xO → xS → Prop} {σ : xS} (h : w_Reader_expectNewName_48 Q  σ) : xJ (SHP, γ) Y_Reader_expectNewName (d + 11) b0 48 [(0, .ref 24)] [] σ Q := by
  refine xJ.aload_n (o_Reader_expectNewName 23 rfl) rfl ?_
  refine xJ.getfield (o_Reader_expectNewName 24 rfl) f_Reader_32 rfl rfl ?_
  refine xJ.aload_n (o_Reader_expectNewName 25 rfl) rfl ?_
  refine xJ.getfield (o_Reader_expectNewName 26 rfl) f_Reader_28 rfl rfl ?_
  refine xJ.getfield (o_Reader_expectNewName 27 rfl) f_Reader_106 rfl rfl ?_
  refine xJ.aload_n (o_Reader_expectNewName 28 rfl) rfl ?_
  refine xJ.getfield (o_Reader_expectNewName 29 rfl) f_Reader_28 rfl rfl ?_
  refine xJ.getfield (o_Reader_expectNewName 30 rfl) f_Reader_103 rfl rfl ?_
  refine xJ.isub (o_Reader_expectNewName 31 rfl) ?_
  refine xJ.callV (Y' := Y_Book_hasRoomForName) (o_Reader_expectNewName 32 rfl) m_Reader_150 y_Book_hasRoomForName im_Book_hasRoomForName se_Book_hasRoomForName rfl rfl (s_Book_hasRoomForName h) rfl rfl (Nat.le_of_ble_eq_true rfl) (fun _ hx => by cases hx) (fun v u q => ?_) (fun n u q => q)
  obtain ⟨r, rfl, h⟩ := xqi_get q
  refine xJ.if_ne (tgt := 90) (o_Reader_expectNewName 33 rfl) (by decide) (fun z => ?_) (fun z => ?_)
  · replace h := h.1 z
    exact xJ.return_ (o_Reader_expectNewName 42 rfl) rfl h
  · replace h := h.2 z
    refine xJ.aload_n (o_Reader_expectNewName 34 rfl) rfl ?_
    refine xJ.getfield (o_Reader_expectNewName 35 rfl) f_Reader_28 rfl rfl ?_
    refine xJ.bipush (v := 11) (o_Reader_expectNewName 36 rfl) (by decide) ?_
    refine xJ.aload_n (o_Reader_expectNewName 37 rfl) rfl ?_
    refine xJ.getfield (o_Reader_expectNewName 38 rfl) f_Reader_28 rfl rfl ?_
    refine xJ.getfield (o_Reader_expectNewName 39 rfl) f_Reader_103 rfl rfl ?_
    refine xJ.callV (Y' := Y_Text_fail) (o_Reader_expectNewName 40 rfl) m_Reader_136 y_Text_fail im_Text_fail se_Text_fail rfl rfl (s_Text_fail h) rfl rfl (Nat.le_of_ble_eq_true rfl) (fun _ hx => by cases hx) (fun v u q => ?_) (fun n u q => q)
    obtain ⟨r, rfl, h⟩ := xqi_get q
    refine xJ.pop (o_Reader_expectNewName 41 rfl) rfl ?_
    exact xJ.return_ (o_Reader_expectNewName 42 rfl) rfl h
set_option maxRecDepth 20000 in
theorem sw_Reader_expectNewName_31 {γ : xG1} {d b0 : Nat} {Q : xO → xS → Prop} {σ : xS} (h : w_Reader_expectNewName_31 Q  σ) : xJ (SHP, γ) Y_Reader_expectNewName (d + 11) b0 31 [(0, .ref 24)] [] σ Q := by
  refine xJ.aload_n (o_Reader_expectNewName 15 rfl) rfl ?_
  refine xJ.getfield (o_Reader_expectNewName 16 rfl) f_Reader_28 rfl rfl ?_
  refine xJ.bipush (v := 6) (o_Reader_expectNewName 17 rfl) (by decide) ?_
  refine xJ.aload_n (o_Reader_expectNewName 18 rfl) rfl ?_
  refine xJ.getfield (o_Reader_expectNewName 19 rfl) f_Reader_28 rfl rfl ?_
  refine xJ.getfield (o_Reader_expectNewName 20 rfl) f_Reader_103 rfl rfl ?_
  refine xJ.callV (Y' := Y_Text_fail) (o_Reader_expectNewName 21 rfl) m_Reader_136 y_Text_fail im_Text_fail se_Text_fail rfl rfl (s_Text_fail h) rfl rfl (Nat.le_of_ble_eq_true rfl) (fun _ hx => by cases hx) (fun v u q => ?_) (fun n u q => q)
  obtain ⟨r, rfl, h⟩ := xqi_get q
  refine xJ.pop (o_Reader_expectNewName 22 rfl) rfl ?_
  exact xJ.lvs (by exact ⟨rfl, trivial⟩) (sw_Reader_expectNewName_48 h)
set_option maxRecDepth 20000 in
theorem s_Reader_expectNewName {γ : xG1} {d : Nat} {Q : xO → xS → Prop} {σ : xS}  (h : wp_Reader_expectNewName Q σ ) : xM (SHP, γ) Y_Reader_expectNewName (d + 11) [.ref 24] σ Q := by
  refine xM.of (by decide) (Nat.le_of_ble_eq_true rfl) ?_
  refine xJ.aload_n (o_Reader_expectNewName 0 rfl) rfl ?_
  refine xJ.iconst (v := 5) (o_Reader_expectNewName 1 rfl) (by decide) ?_
  refine xJ.callV (Y' := Y_Reader_expect) (o_Reader_expectNewName 2 rfl) m_Reader_75 y_Reader_expect im_Reader_expect se_Reader_expect rfl rfl (s_Reader_expect h) rfl rfl (Nat.le_of_ble_eq_true rfl) (fun _ hx => by cases hx) (fun v u q => ?_) (fun n u q => q)
  obtain ⟨rfl, h⟩ := xqv_get q
  refine xJ.aload_n (o_Reader_expectNewName 3 rfl) rfl ?_
  refine xJ.getfield (o_Reader_expectNewName 4 rfl) f_Reader_28 rfl rfl ?_
  refine xJ.getfield (o_Reader_expectNewName 5 rfl) f_Reader_82 rfl rfl ?_
  refine xJ.iconst (v := (-1)) (o_Reader_expectNewName 6 rfl) (by decide) ?_
  refine xJ.icmp_ne (tgt := 31) (o_Reader_expectNewName 7 rfl) (by decide) (fun z => ?_) (fun z => ?_)
  · replace h := h.1 z
    exact xJ.lvs (by exact ⟨rfl, trivial⟩) (sw_Reader_expectNewName_31 h)
  · replace h := h.2 z
    refine xJ.aload_n (o_Reader_expectNewName 8 rfl) rfl ?_
    refine xJ.getfield (o_Reader_expectNewName 9 rfl) f_Reader_32 rfl rfl ?_
    refine xJ.aload_n (o_Reader_expectNewName 10 rfl) rfl ?_
    refine xJ.getfield (o_Reader_expectNewName 11 rfl) f_Reader_28 rfl rfl ?_
    refine xJ.callV (Y' := Y_Book_findName) (o_Reader_expectNewName 12 rfl) m_Reader_146 y_Book_findName im_Book_findName se_Book_findName rfl rfl (s_Book_findName h) rfl rfl (Nat.le_of_ble_eq_true rfl) (fun _ hx => by cases hx) (fun v u q => ?_) (fun n u q => q)
    obtain ⟨r, rfl, h⟩ := xqi_get q
    refine xJ.iconst (v := (-1)) (o_Reader_expectNewName 13 rfl) (by decide) ?_
    refine xJ.icmp_eq (tgt := 48) (o_Reader_expectNewName 14 rfl) (by decide) (fun z => ?_) (fun z => ?_)
    · replace h := h.1 z
      exact xJ.lvs (by exact ⟨rfl, trivial⟩) (sw_Reader_expectNewName_48 h)
    · replace h := h.2 z
      exact xJ.lvs (by exact ⟨rfl, trivial⟩) (sw_Reader_expectNewName_31 h)
def wp_Reader_declare (Q : xO → xS → Prop) (σ : xS)  : Prop :=
  wp_Reader_expectNewName (xqv (fun u1 => (∀ x3 : Int32, x3 = (xi u1 1 10) → (∀ x4 : Int32, x4 = (xi u1 1 11) → wp_Reader_sort (xqi (fun r6 u5 => wp_Sorts_size (xqi (fun r8 u7 => wp_Reader_make (xqi (fun r10 u9 => wp_Book_addThing (xqv (fun u11 => wp_Book_addName (xqv (fun u13 => Q (.inl none) u13) (fun n u => Q (.inr n) u)) u11 x3 x4 r10) (fun n u => Q (.inr n) u)) u9 r10) (fun n u => Q (.inr n) u)) u7 x3 47 r6 r8 0) (fun n u => Q (.inr n) u)) u5 r6) (fun n u => Q (.inr n) u)) u1 ))) (fun n u => Q (.inr n) u)) σ 
set_option maxRecDepth 20000 in
theorem s_Reader_declare {γ : xG1} {d : Nat} {Q : xO → xS → Prop} {σ : xS}  (h : wp_Reader_declare Q σ ) : xM (SHP, γ) Y_Reader_declare (d + 13) [.ref 24] σ Q := by
  refine xM.of (by decide) (Nat.le_of_ble_eq_true rfl) ?_
  refine xJ.aload_n (o_Reader_declare 0 rfl) rfl ?_
  refine xJ.callV (Y' := Y_Reader_expectNewName) (o_Reader_declare 1 rfl) m_Reader_100 y_Reader_expectNewName im_Reader_expectNewName se_Reader_expectNewName rfl rfl (s_Reader_expectNewName h) rfl rfl (Nat.le_of_ble_eq_true rfl) (fun _ hx => by cases hx) (fun v u q => ?_) (fun n u q => q)
  obtain ⟨rfl, h⟩ := xqv_get q
  refine xJ.aload_n (o_Reader_declare 2 rfl) rfl ?_
  refine xJ.getfield (o_Reader_declare 3 rfl) f_Reader_28 rfl rfl ?_
  refine xJ.getfield (o_Reader_declare 4 rfl) f_Reader_103 rfl rfl ?_
  refine xJ.istore_n (o_Reader_declare 5 rfl) (by decide) ?_
  replace h := h _ rfl
  refine xJ.aload_n (o_Reader_declare 6 rfl) rfl ?_
  refine xJ.getfield (o_Reader_declare 7 rfl) f_Reader_28 rfl rfl ?_
  refine xJ.getfield (o_Reader_declare 8 rfl) f_Reader_106 rfl rfl ?_
  refine xJ.istore_n (o_Reader_declare 9 rfl) (by decide) ?_
  replace h := h _ rfl
  refine xJ.aload_n (o_Reader_declare 10 rfl) rfl ?_
  refine xJ.callV (Y' := Y_Reader_sort) (o_Reader_declare 11 rfl) m_Reader_109 y_Reader_sort im_Reader_sort se_Reader_sort rfl rfl (s_Reader_sort h) rfl rfl (Nat.le_of_ble_eq_true rfl) (fun _ hx => by cases hx) (fun v u q => ?_) (fun n u q => q)
  obtain ⟨r, rfl, h⟩ := xqi_get q
  refine xJ.istore_n (o_Reader_declare 12 rfl) (by decide) ?_
  refine xJ.aload_n (o_Reader_declare 13 rfl) rfl ?_
  refine xJ.iload_n (o_Reader_declare 14 rfl) rfl ?_
  refine xJ.bipush (v := 47) (o_Reader_declare 15 rfl) (by decide) ?_
  refine xJ.iload_n (o_Reader_declare 16 rfl) rfl ?_
  refine xJ.iload_n (o_Reader_declare 17 rfl) rfl ?_
  refine xJ.callS (Y' := Y_Sorts_size) (o_Reader_declare 18 rfl) m_Reader_112 y_Sorts_size st_Sorts_size (s_Sorts_size h) rfl rfl (Nat.le_of_ble_eq_true rfl) (fun _ hx => by cases hx) (fun v u q => ?_) (fun n u q => q)
  obtain ⟨r, rfl, h⟩ := xqi_get q
  refine xJ.lconst (v := 0) (o_Reader_declare 19 rfl) (by decide) ?_
  refine xJ.callV (Y' := Y_Reader_make) (o_Reader_declare 20 rfl) m_Reader_118 y_Reader_make im_Reader_make se_Reader_make rfl rfl (s_Reader_make h) rfl rfl (Nat.le_of_ble_eq_true rfl) (fun _ hx => by cases hx) (fun v u q => ?_) (fun n u q => q)
  obtain ⟨r, rfl, h⟩ := xqi_get q
  refine xJ.istore (o_Reader_declare 21 rfl) (by decide) ?_
  refine xJ.aload_n (o_Reader_declare 22 rfl) rfl ?_
  refine xJ.getfield (o_Reader_declare 23 rfl) f_Reader_32 rfl rfl ?_
  refine xJ.iload (o_Reader_declare 24 rfl) rfl ?_
  refine xJ.callV (Y' := Y_Book_addThing) (o_Reader_declare 25 rfl) m_Reader_122 y_Book_addThing im_Book_addThing se_Book_addThing rfl rfl (s_Book_addThing h) rfl rfl (Nat.le_of_ble_eq_true rfl) (fun _ hx => by cases hx) (fun v u q => ?_) (fun n u q => q)
  obtain ⟨rfl, h⟩ := xqv_get q
  refine xJ.aload_n (o_Reader_declare 26 rfl) rfl ?_
  refine xJ.getfield (o_Reader_declare 27 rfl) f_Reader_32 rfl rfl ?_
  refine xJ.aload_n (o_Reader_declare 28 rfl) rfl ?_
  refine xJ.getfield (o_Reader_declare 29 rfl) f_Reader_28 rfl rfl ?_
  refine xJ.iload_n (o_Reader_declare 30 rfl) rfl ?_
  refine xJ.iload_n (o_Reader_declare 31 rfl) rfl ?_
  refine xJ.iload (o_Reader_declare 32 rfl) rfl ?_
  refine xJ.callV (Y' := Y_Book_addName) (o_Reader_declare 33 rfl) m_Reader_125 y_Book_addName im_Book_addName se_Book_addName rfl rfl (s_Book_addName h) rfl rfl (Nat.le_of_ble_eq_true rfl) (fun _ hx => by cases hx) (fun v u q => ?_) (fun n u q => q)
  obtain ⟨rfl, h⟩ := xqv_get q
  exact xJ.return_ (o_Reader_declare 34 rfl) rfl h
def w_Reader_giveArguments_29 (Q : xO → xS → Prop) : Nat → Int32 → Int32 → Int32 → xS → Prop
  | 0 => fun _ _ _ _ => False
  | n + 1 => fun a1 a2 a3 σ =>
    (((xi σ 24 4) ≤ a3 → (∀ s1 : xS, s1 = xpi σ 24 4 a2 → Q (.inl none) s1)) ∧ (¬ (xi σ 24 4) ≤ a3 → (vp_in a3 2400 ∧ wp_Terms_addArgument (xqv (fun u2 => (∀ x4 : Int32, x4 = a3 + 1 → w_Reader_giveArguments_29 Q n a1 a2 x4 u2)) (fun n u => Q (.inr n) u)) σ a1 (xi σ 25 a3.toNatClampNeg))))
def wp_Reader_giveArguments (Q : xO → xS → Prop) (σ : xS) (a1 : Int32) (a2 : Int32) : Prop :=
  (vp_in a1 2000 ∧ ((¬ (xi σ 7 a1.toNatClampNeg) = 10 → ∃ m, w_Reader_giveArguments_29 Q m a1 a2 a2 σ) ∧ ((xi σ 7 a1.toNatClampNeg) = 10 → (vp_in a1 2000 ∧ (∀ s5 : xS, s5 = xpi σ 11 a1.toNatClampNeg (xi σ 24 11) → ∃ m, w_Reader_giveArguments_29 Q m a1 a2 a2 s5)))))
set_option maxRecDepth 20000 in
theorem sw_Reader_giveArguments_29 {γ : xG1} {d b0 : Nat} {Q : xO → xS → Prop} : ∀ (n : Nat) (a1 : Int32) (a2 : Int32) (a3 : Int32) (σ : xS), w_Reader_giveArguments_29 Q n a1 a2 a3 σ → xJ (SHP, γ) Y_Reader_giveArguments (d + 2) b0 29 [(0, .ref 24), (1, .int a1), (2, .int a2), (3, .int a3)] [] σ Q := by
  intro n
  induction n with
  | zero => intro a1 a2 a3 σ h; exact h.elim
  | succ n ih =>
    intro a1 a2 a3 σ h
    refine xJ.iload_n (o_Reader_giveArguments 16 rfl) rfl ?_
    refine xJ.aload_n (o_Reader_giveArguments 17 rfl) rfl ?_
    refine xJ.getfield (o_Reader_giveArguments 18 rfl) f_Reader_51 rfl rfl ?_
    refine xJ.icmp_ge (tgt := 57) (o_Reader_giveArguments 19 rfl) (by decide) (fun z => ?_) (fun z => ?_)
    · replace h := h.1 z
      refine xJ.aload_n (o_Reader_giveArguments 30 rfl) rfl ?_
      refine xJ.iload_n (o_Reader_giveArguments 31 rfl) rfl ?_
      refine xJ.putI (o_Reader_giveArguments 32 rfl) f_Reader_51 rfl rfl rfl ?_
      replace h := h _ rfl
      exact xJ.return_ (o_Reader_giveArguments 33 rfl) rfl h
    · replace h := h.2 z
      refine xJ.aload_n (o_Reader_giveArguments 20 rfl) rfl ?_
      refine xJ.getfield (o_Reader_giveArguments 21 rfl) f_Reader_42 rfl rfl ?_
      refine xJ.iload_n (o_Reader_giveArguments 22 rfl) rfl ?_
      refine xJ.aload_n (o_Reader_giveArguments 23 rfl) rfl ?_
      refine xJ.getfield (o_Reader_giveArguments 24 rfl) f_Reader_9 rfl rfl ?_
      refine xJ.iload_n (o_Reader_giveArguments 25 rfl) rfl ?_
      refine xJ.iaload (o_Reader_giveArguments 26 rfl) rfl h.1 ?_
      replace h := h.2
      refine xJ.callV (Y' := Y_Terms_addArgument) (o_Reader_giveArguments 27 rfl) m_Reader_229 y_Terms_addArgument im_Terms_addArgument se_Terms_addArgument rfl rfl (s_Terms_addArgument h) rfl rfl (Nat.le_of_ble_eq_true rfl) (fun _ hx => by cases hx) (fun v u q => ?_) (fun n u q => q)
      obtain ⟨rfl, h⟩ := xqv_get q
      refine xJ.iincC (w := 1) (o_Reader_giveArguments 28 rfl) rfl (by decide) (by decide) ?_
      replace h := h _ rfl
      refine xJ.goto (tgt := 29) (o_Reader_giveArguments 29 rfl) (by decide) ?_
      exact xJ.lvs (by exact ⟨rfl, rfl, rfl, rfl, trivial⟩) (ih _ _ _ _ h)
set_option maxRecDepth 20000 in
theorem s_Reader_giveArguments {γ : xG1} {d : Nat} {Q : xO → xS → Prop} {σ : xS} {a1 : Int32} {a2 : Int32} (h : wp_Reader_giveArguments Q σ a1 a2) : xM (SHP, γ) Y_Reader_giveArguments (d + 2) [.ref 24, .int a1, .int a2] σ Q := by
  refine xM.of (by decide) (Nat.le_of_ble_eq_true rfl) ?_
  refine xJ.aload_n (o_Reader_giveArguments 0 rfl) rfl ?_
  refine xJ.getfield (o_Reader_giveArguments 1 rfl) f_Reader_42 rfl rfl ?_
  refine xJ.getfield (o_Reader_giveArguments 2 rfl) f_Reader_224 rfl rfl ?_
  refine xJ.iload_n (o_Reader_giveArguments 3 rfl) rfl ?_
  refine xJ.iaload (o_Reader_giveArguments 4 rfl) rfl h.1 ?_
  replace h := h.2
  refine xJ.bipush (v := 10) (o_Reader_giveArguments 5 rfl) (by decide) ?_
  refine xJ.icmp_ne (tgt := 27) (o_Reader_giveArguments 6 rfl) (by decide) (fun z => ?_) (fun z => ?_)
  · replace h := h.1 z
    refine xJ.iload_n (o_Reader_giveArguments 14 rfl) rfl ?_
    refine xJ.istore_n (o_Reader_giveArguments 15 rfl) (by decide) ?_
    obtain ⟨m, h⟩ := h
    exact xJ.lvs (by exact ⟨rfl, rfl, rfl, rfl, trivial⟩) (sw_Reader_giveArguments_29 m _ _ _ _ h)
  · replace h := h.2 z
    refine xJ.aload_n (o_Reader_giveArguments 7 rfl) rfl ?_
    refine xJ.getfield (o_Reader_giveArguments 8 rfl) f_Reader_42 rfl rfl ?_
    refine xJ.getfield (o_Reader_giveArguments 9 rfl) f_Reader_227 rfl rfl ?_
    refine xJ.iload_n (o_Reader_giveArguments 10 rfl) rfl ?_
    refine xJ.aload_n (o_Reader_giveArguments 11 rfl) rfl ?_
    refine xJ.getfield (o_Reader_giveArguments 12 rfl) f_Reader_204 rfl rfl ?_
    refine xJ.iastore (o_Reader_giveArguments 13 rfl) rfl h.1 ?_
    replace h := h.2
    replace h := h _ rfl
    refine xJ.iload_n (o_Reader_giveArguments 14 rfl) rfl ?_
    refine xJ.istore_n (o_Reader_giveArguments 15 rfl) (by decide) ?_
    obtain ⟨m, h⟩ := h
    exact xJ.lvs (by exact ⟨rfl, rfl, rfl, rfl, trivial⟩) (sw_Reader_giveArguments_29 m _ _ _ _ h)
theorem sc_Reader_weigh_1 {x : Int32} {P : Nat → Prop} (k0 : x = 10 ∨ x = 11 ∨ x = 12 ∨ x = 44 → P 250) (k1 : x = 13 ∨ x = 21 → P 164) (k2 : x = 14 ∨ x = 15 ∨ x = 16 ∨ x = 17 ∨ x = 23 ∨ x = 24 ∨ x = 25 → P 166) (k3 : x = 18 → P 174) (k4 : x = 19 → P 178) (k5 : x = 20 → P 186) (k6 : x = 26 → P 196) (k7 : x = 27 → P 205) (k8 : x = 29 ∨ x = 30 → P 216) (k9 : x = 31 ∨ x = 32 → P 228) (k10 : x = 33 ∨ x = 34 ∨ x = 35 → P 240) (k11 : x = 45 ∨ x = 46 → P 245) (kd : ¬ x = 10 ∧ ¬ x = 11 ∧ ¬ x = 12 ∧ ¬ x = 13 ∧ ¬ x = 14 ∧ ¬ x = 15 ∧ ¬ x = 16 ∧ ¬ x = 17 ∧ ¬ x = 18 ∧ ¬ x = 19 ∧ ¬ x = 20 ∧ ¬ x = 21 ∧ ¬ x = 23 ∧ ¬ x = 24 ∧ ¬ x = 25 ∧ ¬ x = 26 ∧ ¬ x = 27 ∧ ¬ x = 29 ∧ ¬ x = 30 ∧ ¬ x = 31 ∧ ¬ x = 32 ∧ ¬ x = 33 ∧ ¬ x = 34 ∧ ¬ x = 35 ∧ ¬ x = 44 ∧ ¬ x = 45 ∧ ¬ x = 46 → P 252) : ∃ t : Nat, xdst 1 251 10 46 #[249, 249, 249, 163, 165, 165, 165, 165, 173, 177, 185, 163, 251, 165, 165, 165, 195, 204, 251, 215, 215, 227, 227, 239, 239, 239, 251, 251, 251, 251, 251, 251, 251, 251, 249, 244, 244] x = (t : Int) ∧ P t := by
  by_cases h0_0 : x = 10
  · subst h0_0; exact ⟨250, by decide, k0 (Or.inl rfl)⟩
  by_cases h0_1 : x = 11
  · subst h0_1; exact ⟨250, by decide, k0 (Or.inr (Or.inl rfl))⟩
  by_cases h0_2 : x = 12
  · subst h0_2; exact ⟨250, by decide, k0 (Or.inr (Or.inr (Or.inl rfl)))⟩
  by_cases h0_3 : x = 44
  · subst h0_3; exact ⟨250, by decide, k0 (Or.inr (Or.inr (Or.inr (rfl))))⟩
  by_cases h1_0 : x = 13
  · subst h1_0; exact ⟨164, by decide, k1 (Or.inl rfl)⟩
  by_cases h1_1 : x = 21
  · subst h1_1; exact ⟨164, by decide, k1 (Or.inr (rfl))⟩
  by_cases h2_0 : x = 14
  · subst h2_0; exact ⟨166, by decide, k2 (Or.inl rfl)⟩
  by_cases h2_1 : x = 15
  · subst h2_1; exact ⟨166, by decide, k2 (Or.inr (Or.inl rfl))⟩
  by_cases h2_2 : x = 16
  · subst h2_2; exact ⟨166, by decide, k2 (Or.inr (Or.inr (Or.inl rfl)))⟩
  by_cases h2_3 : x = 17
  · subst h2_3; exact ⟨166, by decide, k2 (Or.inr (Or.inr (Or.inr (Or.inl rfl))))⟩
  by_cases h2_4 : x = 23
  · subst h2_4; exact ⟨166, by decide, k2 (Or.inr (Or.inr (Or.inr (Or.inr (Or.inl rfl)))))⟩
  by_cases h2_5 : x = 24
  · subst h2_5; exact ⟨166, by decide, k2 (Or.inr (Or.inr (Or.inr (Or.inr (Or.inr (Or.inl rfl))))))⟩
  by_cases h2_6 : x = 25
  · subst h2_6; exact ⟨166, by decide, k2 (Or.inr (Or.inr (Or.inr (Or.inr (Or.inr (Or.inr (rfl)))))))⟩
  by_cases h3_0 : x = 18
  · subst h3_0; exact ⟨174, by decide, k3 (rfl)⟩
  by_cases h4_0 : x = 19
  · subst h4_0; exact ⟨178, by decide, k4 (rfl)⟩
  by_cases h5_0 : x = 20
  · subst h5_0; exact ⟨186, by decide, k5 (rfl)⟩
  by_cases h6_0 : x = 26
  · subst h6_0; exact ⟨196, by decide, k6 (rfl)⟩
  by_cases h7_0 : x = 27
  · subst h7_0; exact ⟨205, by decide, k7 (rfl)⟩
  by_cases h8_0 : x = 29
  · subst h8_0; exact ⟨216, by decide, k8 (Or.inl rfl)⟩
  by_cases h8_1 : x = 30
  · subst h8_1; exact ⟨216, by decide, k8 (Or.inr (rfl))⟩
  by_cases h9_0 : x = 31
  · subst h9_0; exact ⟨228, by decide, k9 (Or.inl rfl)⟩
  by_cases h9_1 : x = 32
  · subst h9_1; exact ⟨228, by decide, k9 (Or.inr (rfl))⟩
  by_cases h10_0 : x = 33
  · subst h10_0; exact ⟨240, by decide, k10 (Or.inl rfl)⟩
  by_cases h10_1 : x = 34
  · subst h10_1; exact ⟨240, by decide, k10 (Or.inr (Or.inl rfl))⟩
  by_cases h10_2 : x = 35
  · subst h10_2; exact ⟨240, by decide, k10 (Or.inr (Or.inr (rfl)))⟩
  by_cases h11_0 : x = 45
  · subst h11_0; exact ⟨245, by decide, k11 (Or.inl rfl)⟩
  by_cases h11_1 : x = 46
  · subst h11_1; exact ⟨245, by decide, k11 (Or.inr (rfl))⟩
  have nh0_0 := lv_neT h0_0 (show (10 : Int32).toInt = 10 by decide)
  have nh0_1 := lv_neT h0_1 (show (11 : Int32).toInt = 11 by decide)
  have nh0_2 := lv_neT h0_2 (show (12 : Int32).toInt = 12 by decide)
  have nh0_3 := lv_neT h0_3 (show (44 : Int32).toInt = 44 by decide)
  have nh1_0 := lv_neT h1_0 (show (13 : Int32).toInt = 13 by decide)
  have nh1_1 := lv_neT h1_1 (show (21 : Int32).toInt = 21 by decide)
  have nh2_0 := lv_neT h2_0 (show (14 : Int32).toInt = 14 by decide)
  have nh2_1 := lv_neT h2_1 (show (15 : Int32).toInt = 15 by decide)
  have nh2_2 := lv_neT h2_2 (show (16 : Int32).toInt = 16 by decide)
  have nh2_3 := lv_neT h2_3 (show (17 : Int32).toInt = 17 by decide)
  have nh2_4 := lv_neT h2_4 (show (23 : Int32).toInt = 23 by decide)
  have nh2_5 := lv_neT h2_5 (show (24 : Int32).toInt = 24 by decide)
  have nh2_6 := lv_neT h2_6 (show (25 : Int32).toInt = 25 by decide)
  have nh3_0 := lv_neT h3_0 (show (18 : Int32).toInt = 18 by decide)
  have nh4_0 := lv_neT h4_0 (show (19 : Int32).toInt = 19 by decide)
  have nh5_0 := lv_neT h5_0 (show (20 : Int32).toInt = 20 by decide)
  have nh6_0 := lv_neT h6_0 (show (26 : Int32).toInt = 26 by decide)
  have nh7_0 := lv_neT h7_0 (show (27 : Int32).toInt = 27 by decide)
  have nh8_0 := lv_neT h8_0 (show (29 : Int32).toInt = 29 by decide)
  have nh8_1 := lv_neT h8_1 (show (30 : Int32).toInt = 30 by decide)
  have nh9_0 := lv_neT h9_0 (show (31 : Int32).toInt = 31 by decide)
  have nh9_1 := lv_neT h9_1 (show (32 : Int32).toInt = 32 by decide)
  have nh10_0 := lv_neT h10_0 (show (33 : Int32).toInt = 33 by decide)
  have nh10_1 := lv_neT h10_1 (show (34 : Int32).toInt = 34 by decide)
  have nh10_2 := lv_neT h10_2 (show (35 : Int32).toInt = 35 by decide)
  have nh11_0 := lv_neT h11_0 (show (45 : Int32).toInt = 45 by decide)
  have nh11_1 := lv_neT h11_1 (show (46 : Int32).toInt = 46 by decide)
  refine ⟨252, ?_, kd ⟨h0_0, h0_1, h0_2, h1_0, h2_0, h2_1, h2_2, h2_3, h3_0, h4_0, h5_0, h1_1, h2_4, h2_5, h2_6, h6_0, h7_0, h8_0, h8_1, h9_0, h9_1, h10_0, h10_1, h10_2, h0_3, h11_0, h11_1⟩⟩
  by_cases d12 : x = 22
  · subst d12; decide
  by_cases d18 : x = 28
  · subst d18; decide
  by_cases d26 : x = 36
  · subst d26; decide
  by_cases d27 : x = 37
  · subst d27; decide
  by_cases d28 : x = 38
  · subst d28; decide
  by_cases d29 : x = 39
  · subst d29; decide
  by_cases d30 : x = 40
  · subst d30; decide
  by_cases d31 : x = 41
  · subst d31; decide
  by_cases d32 : x = 42
  · subst d32; decide
  by_cases d33 : x = 43
  · subst d33; decide
  have nd12 := lv_neT d12 (show (22 : Int32).toInt = 22 by decide)
  have nd18 := lv_neT d18 (show (28 : Int32).toInt = 28 by decide)
  have nd26 := lv_neT d26 (show (36 : Int32).toInt = 36 by decide)
  have nd27 := lv_neT d27 (show (37 : Int32).toInt = 37 by decide)
  have nd28 := lv_neT d28 (show (38 : Int32).toInt = 38 by decide)
  have nd29 := lv_neT d29 (show (39 : Int32).toInt = 39 by decide)
  have nd30 := lv_neT d30 (show (40 : Int32).toInt = 40 by decide)
  have nd31 := lv_neT d31 (show (41 : Int32).toInt = 41 by decide)
  have nd32 := lv_neT d32 (show (42 : Int32).toInt = 42 by decide)
  have nd33 := lv_neT d33 (show (43 : Int32).toInt = 43 by decide)
  exact xdst_out (by omega) rfl
def wp_Reader_weigh (Q : xO → xS → Prop) (σ : xS) (a0 : Int32) (a1 : Int32) (a2 : Int32) (a3 : Int32) : Prop :=
  ((a0 = 10 ∨ a0 = 11 ∨ a0 = 12 ∨ a0 = 44 → Q (.inl (some (.int a1))) σ) ∧ (a0 = 13 ∨ a0 = 21 → Q (.inl (some (.int a2))) σ) ∧ (a0 = 14 ∨ a0 = 15 ∨ a0 = 16 ∨ a0 = 17 ∨ a0 = 23 ∨ a0 = 24 ∨ a0 = 25 → Q (.inl (some (.int ((4 * a2) * (a3 - 1))))) σ) ∧ (a0 = 18 → Q (.inl (some (.int (4 * a1)))) σ) ∧ (a0 = 19 → Q (.inl (some (.int ((5 * a2) * (a3 - 1))))) σ) ∧ (a0 = 20 → Q (.inl (some (.int (((5 * a2) * a3) * (a3 - 1))))) σ) ∧ (a0 = 26 → Q (.inl (some (.int ((10 * a2) * (a3 - 1))))) σ) ∧ (a0 = 27 → Q (.inl (some (.int (((14 * a2) * a2) * (a3 - 1))))) σ) ∧ (a0 = 29 ∨ a0 = 30 → Q (.inl (some (.int (((16 * a2) * a2) + (32 * a2))))) σ) ∧ (a0 = 31 ∨ a0 = 32 → Q (.inl (some (.int (((16 * a2) * a2) + (80 * a2))))) σ) ∧ (a0 = 33 ∨ a0 = 34 ∨ a0 = 35 → Q (.inl (some (.int (30 * a2)))) σ) ∧ (a0 = 45 ∨ a0 = 46 → Q (.inl (some (.int (8 * a2)))) σ) ∧ (¬ a0 = 10 ∧ ¬ a0 = 11 ∧ ¬ a0 = 12 ∧ ¬ a0 = 13 ∧ ¬ a0 = 14 ∧ ¬ a0 = 15 ∧ ¬ a0 = 16 ∧ ¬ a0 = 17 ∧ ¬ a0 = 18 ∧ ¬ a0 = 19 ∧ ¬ a0 = 20 ∧ ¬ a0 = 21 ∧ ¬ a0 = 23 ∧ ¬ a0 = 24 ∧ ¬ a0 = 25 ∧ ¬ a0 = 26 ∧ ¬ a0 = 27 ∧ ¬ a0 = 29 ∧ ¬ a0 = 30 ∧ ¬ a0 = 31 ∧ ¬ a0 = 32 ∧ ¬ a0 = 33 ∧ ¬ a0 = 34 ∧ ¬ a0 = 35 ∧ ¬ a0 = 44 ∧ ¬ a0 = 45 ∧ ¬ a0 = 46 → Q (.inl (some (.int (10 * a2)))) σ))
set_option maxRecDepth 20000 in
theorem s_Reader_weigh {γ : xG1} {d : Nat} {Q : xO → xS → Prop} {σ : xS} {a0 : Int32} {a1 : Int32} {a2 : Int32} {a3 : Int32} (h : wp_Reader_weigh Q σ a0 a1 a2 a3) : xM (SHP, γ) Y_Reader_weigh (d + 0) [.int a0, .int a1, .int a2, .int a3] σ Q := by
  refine xM.of (by decide) (Nat.le_of_ble_eq_true rfl) ?_
  refine xJ.iload_n (o_Reader_weigh 0 rfl) rfl ?_
  refine xJ.tsw (o_Reader_weigh 1 rfl) (by decide) (sc_Reader_weigh_1 (fun z => ?_) (fun z => ?_) (fun z => ?_) (fun z => ?_) (fun z => ?_) (fun z => ?_) (fun z => ?_) (fun z => ?_) (fun z => ?_) (fun z => ?_) (fun z => ?_) (fun z => ?_) (fun z => ?_))
  · replace h := h.1 z
    refine xJ.iload_n (o_Reader_weigh 80 rfl) rfl ?_
    exact xJ.ireturn (o_Reader_weigh 81 rfl) rfl h
  · replace h := h.2.1 z
    refine xJ.iload_n (o_Reader_weigh 2 rfl) rfl ?_
    exact xJ.ireturn (o_Reader_weigh 3 rfl) rfl h
  · replace h := h.2.2.1 z
    refine xJ.iconst (v := 4) (o_Reader_weigh 4 rfl) (by decide) ?_
    refine xJ.iload_n (o_Reader_weigh 5 rfl) rfl ?_
    refine xJ.imul (o_Reader_weigh 6 rfl) ?_
    refine xJ.iload_n (o_Reader_weigh 7 rfl) rfl ?_
    refine xJ.iconst (v := 1) (o_Reader_weigh 8 rfl) (by decide) ?_
    refine xJ.isub (o_Reader_weigh 9 rfl) ?_
    refine xJ.imul (o_Reader_weigh 10 rfl) ?_
    exact xJ.ireturn (o_Reader_weigh 11 rfl) rfl h
  · replace h := h.2.2.2.1 z
    refine xJ.iconst (v := 4) (o_Reader_weigh 12 rfl) (by decide) ?_
    refine xJ.iload_n (o_Reader_weigh 13 rfl) rfl ?_
    refine xJ.imul (o_Reader_weigh 14 rfl) ?_
    exact xJ.ireturn (o_Reader_weigh 15 rfl) rfl h
  · replace h := h.2.2.2.2.1 z
    refine xJ.iconst (v := 5) (o_Reader_weigh 16 rfl) (by decide) ?_
    refine xJ.iload_n (o_Reader_weigh 17 rfl) rfl ?_
    refine xJ.imul (o_Reader_weigh 18 rfl) ?_
    refine xJ.iload_n (o_Reader_weigh 19 rfl) rfl ?_
    refine xJ.iconst (v := 1) (o_Reader_weigh 20 rfl) (by decide) ?_
    refine xJ.isub (o_Reader_weigh 21 rfl) ?_
    refine xJ.imul (o_Reader_weigh 22 rfl) ?_
    exact xJ.ireturn (o_Reader_weigh 23 rfl) rfl h
  · replace h := h.2.2.2.2.2.1 z
    refine xJ.iconst (v := 5) (o_Reader_weigh 24 rfl) (by decide) ?_
    refine xJ.iload_n (o_Reader_weigh 25 rfl) rfl ?_
    refine xJ.imul (o_Reader_weigh 26 rfl) ?_
    refine xJ.iload_n (o_Reader_weigh 27 rfl) rfl ?_
    refine xJ.imul (o_Reader_weigh 28 rfl) ?_
    refine xJ.iload_n (o_Reader_weigh 29 rfl) rfl ?_
    refine xJ.iconst (v := 1) (o_Reader_weigh 30 rfl) (by decide) ?_
    refine xJ.isub (o_Reader_weigh 31 rfl) ?_
    refine xJ.imul (o_Reader_weigh 32 rfl) ?_
    exact xJ.ireturn (o_Reader_weigh 33 rfl) rfl h
  · replace h := h.2.2.2.2.2.2.1 z
    refine xJ.bipush (v := 10) (o_Reader_weigh 34 rfl) (by decide) ?_
    refine xJ.iload_n (o_Reader_weigh 35 rfl) rfl ?_
    refine xJ.imul (o_Reader_weigh 36 rfl) ?_
    refine xJ.iload_n (o_Reader_weigh 37 rfl) rfl ?_
    refine xJ.iconst (v := 1) (o_Reader_weigh 38 rfl) (by decide) ?_
    refine xJ.isub (o_Reader_weigh 39 rfl) ?_
    refine xJ.imul (o_Reader_weigh 40 rfl) ?_
    exact xJ.ireturn (o_Reader_weigh 41 rfl) rfl h
  · replace h := h.2.2.2.2.2.2.2.1 z
    refine xJ.bipush (v := 14) (o_Reader_weigh 42 rfl) (by decide) ?_
    refine xJ.iload_n (o_Reader_weigh 43 rfl) rfl ?_
    refine xJ.imul (o_Reader_weigh 44 rfl) ?_
    refine xJ.iload_n (o_Reader_weigh 45 rfl) rfl ?_
    refine xJ.imul (o_Reader_weigh 46 rfl) ?_
    refine xJ.iload_n (o_Reader_weigh 47 rfl) rfl ?_
    refine xJ.iconst (v := 1) (o_Reader_weigh 48 rfl) (by decide) ?_
    refine xJ.isub (o_Reader_weigh 49 rfl) ?_
    refine xJ.imul (o_Reader_weigh 50 rfl) ?_
    exact xJ.ireturn (o_Reader_weigh 51 rfl) rfl h
  · replace h := h.2.2.2.2.2.2.2.2.1 z
    refine xJ.bipush (v := 16) (o_Reader_weigh 52 rfl) (by decide) ?_
    refine xJ.iload_n (o_Reader_weigh 53 rfl) rfl ?_
    refine xJ.imul (o_Reader_weigh 54 rfl) ?_
    refine xJ.iload_n (o_Reader_weigh 55 rfl) rfl ?_
    refine xJ.imul (o_Reader_weigh 56 rfl) ?_
    refine xJ.bipush (v := 32) (o_Reader_weigh 57 rfl) (by decide) ?_
    refine xJ.iload_n (o_Reader_weigh 58 rfl) rfl ?_
    refine xJ.imul (o_Reader_weigh 59 rfl) ?_
    refine xJ.iadd (o_Reader_weigh 60 rfl) ?_
    exact xJ.ireturn (o_Reader_weigh 61 rfl) rfl h
  · replace h := h.2.2.2.2.2.2.2.2.2.1 z
    refine xJ.bipush (v := 16) (o_Reader_weigh 62 rfl) (by decide) ?_
    refine xJ.iload_n (o_Reader_weigh 63 rfl) rfl ?_
    refine xJ.imul (o_Reader_weigh 64 rfl) ?_
    refine xJ.iload_n (o_Reader_weigh 65 rfl) rfl ?_
    refine xJ.imul (o_Reader_weigh 66 rfl) ?_
    refine xJ.bipush (v := 80) (o_Reader_weigh 67 rfl) (by decide) ?_
    refine xJ.iload_n (o_Reader_weigh 68 rfl) rfl ?_
    refine xJ.imul (o_Reader_weigh 69 rfl) ?_
    refine xJ.iadd (o_Reader_weigh 70 rfl) ?_
    exact xJ.ireturn (o_Reader_weigh 71 rfl) rfl h
  · replace h := h.2.2.2.2.2.2.2.2.2.2.1 z
    refine xJ.bipush (v := 30) (o_Reader_weigh 72 rfl) (by decide) ?_
    refine xJ.iload_n (o_Reader_weigh 73 rfl) rfl ?_
    refine xJ.imul (o_Reader_weigh 74 rfl) ?_
    exact xJ.ireturn (o_Reader_weigh 75 rfl) rfl h
  · replace h := h.2.2.2.2.2.2.2.2.2.2.2.1 z
    refine xJ.bipush (v := 8) (o_Reader_weigh 76 rfl) (by decide) ?_
    refine xJ.iload_n (o_Reader_weigh 77 rfl) rfl ?_
    refine xJ.imul (o_Reader_weigh 78 rfl) ?_
    exact xJ.ireturn (o_Reader_weigh 79 rfl) rfl h
  · replace h := h.2.2.2.2.2.2.2.2.2.2.2.2 z
    refine xJ.bipush (v := 10) (o_Reader_weigh 82 rfl) (by decide) ?_
    refine xJ.iload_n (o_Reader_weigh 83 rfl) rfl ?_
    refine xJ.imul (o_Reader_weigh 84 rfl) ?_
    exact xJ.ireturn (o_Reader_weigh 85 rfl) rfl h
def w_Reader_isOneSort_4 (Q : xO → xS → Prop) : Nat → Int32 → Int32 → xS → Prop
  | 0 => fun _ _ _ => False
  | n + 1 => fun a1 a2 σ =>
    (((xi σ 24 4) ≤ a2 → Q (.inl (some (.int 1))) σ) ∧ (¬ (xi σ 24 4) ≤ a2 → (vp_in a2 2400 ∧ (vp_in (xi σ 25 a2.toNatClampNeg) 2000 ∧ (vp_in a1 2400 ∧ (vp_in (xi σ 25 a1.toNatClampNeg) 2000 ∧ (((xi σ 8 (xi σ 25 a2.toNatClampNeg).toNatClampNeg) = (xi σ 8 (xi σ 25 a1.toNatClampNeg).toNatClampNeg) → (∀ x2 : Int32, x2 = a2 + 1 → w_Reader_isOneSort_4 Q n a1 x2 σ)) ∧ (¬ (xi σ 8 (xi σ 25 a2.toNatClampNeg).toNatClampNeg) = (xi σ 8 (xi σ 25 a1.toNatClampNeg).toNatClampNeg) → Q (.inl (some (.int 0))) σ))))))))
def wp_Reader_isOneSort (Q : xO → xS → Prop) (σ : xS) (a1 : Int32) : Prop :=
  (∀ x1 : Int32, x1 = (a1 + 1) → ∃ m, w_Reader_isOneSort_4 Q m a1 x1 σ)
set_option maxRecDepth 20000 in
theorem sw_Reader_isOneSort_4 {γ : xG1} {d b0 : Nat} {Q : xO → xS → Prop} : ∀ (n : Nat) (a1 : Int32) (a2 : Int32) (σ : xS), w_Reader_isOneSort_4 Q n a1 a2 σ → xJ (SHP, γ) Y_Reader_isOneSort (d + 0) b0 4 [(0, .ref 24), (1, .int a1), (2, .int a2)] [] σ Q := by
  intro n
  induction n with
  | zero => intro a1 a2 σ h; exact h.elim
  | succ n ih =>
    intro a1 a2 σ h
    refine xJ.iload_n (o_Reader_isOneSort 4 rfl) rfl ?_
    refine xJ.aload_n (o_Reader_isOneSort 5 rfl) rfl ?_
    refine xJ.getfield (o_Reader_isOneSort 6 rfl) f_Reader_51 rfl rfl ?_
    refine xJ.icmp_ge (tgt := 51) (o_Reader_isOneSort 7 rfl) (by decide) (fun z => ?_) (fun z => ?_)
    · replace h := h.1 z
      refine xJ.iconst (v := 1) (o_Reader_isOneSort 29 rfl) (by decide) ?_
      exact xJ.zreturn (o_Reader_isOneSort 30 rfl) rfl (Or.inr rfl) h
    · replace h := h.2 z
      refine xJ.aload_n (o_Reader_isOneSort 8 rfl) rfl ?_
      refine xJ.getfield (o_Reader_isOneSort 9 rfl) f_Reader_42 rfl rfl ?_
      refine xJ.getfield (o_Reader_isOneSort 10 rfl) f_Reader_132 rfl rfl ?_
      refine xJ.aload_n (o_Reader_isOneSort 11 rfl) rfl ?_
      refine xJ.getfield (o_Reader_isOneSort 12 rfl) f_Reader_9 rfl rfl ?_
      refine xJ.iload_n (o_Reader_isOneSort 13 rfl) rfl ?_
      refine xJ.iaload (o_Reader_isOneSort 14 rfl) rfl h.1 ?_
      replace h := h.2
      refine xJ.iaload (o_Reader_isOneSort 15 rfl) rfl h.1 ?_
      replace h := h.2
      refine xJ.aload_n (o_Reader_isOneSort 16 rfl) rfl ?_
      refine xJ.getfield (o_Reader_isOneSort 17 rfl) f_Reader_42 rfl rfl ?_
      refine xJ.getfield (o_Reader_isOneSort 18 rfl) f_Reader_132 rfl rfl ?_
      refine xJ.aload_n (o_Reader_isOneSort 19 rfl) rfl ?_
      refine xJ.getfield (o_Reader_isOneSort 20 rfl) f_Reader_9 rfl rfl ?_
      refine xJ.iload_n (o_Reader_isOneSort 21 rfl) rfl ?_
      refine xJ.iaload (o_Reader_isOneSort 22 rfl) rfl h.1 ?_
      replace h := h.2
      refine xJ.iaload (o_Reader_isOneSort 23 rfl) rfl h.1 ?_
      replace h := h.2
      refine xJ.icmp_eq (tgt := 45) (o_Reader_isOneSort 24 rfl) (by decide) (fun z => ?_) (fun z => ?_)
      · replace h := h.1 z
        refine xJ.iincC (w := 1) (o_Reader_isOneSort 27 rfl) rfl (by decide) (by decide) ?_
        replace h := h _ rfl
        refine xJ.goto (tgt := 4) (o_Reader_isOneSort 28 rfl) (by decide) ?_
        exact xJ.lvs (by exact ⟨rfl, rfl, rfl, trivial⟩) (ih _ _ _ h)
      · replace h := h.2 z
        refine xJ.iconst (v := 0) (o_Reader_isOneSort 25 rfl) (by decide) ?_
        exact xJ.zreturn (o_Reader_isOneSort 26 rfl) rfl (Or.inl rfl) h
set_option maxRecDepth 20000 in
theorem s_Reader_isOneSort {γ : xG1} {d : Nat} {Q : xO → xS → Prop} {σ : xS} {a1 : Int32} (h : wp_Reader_isOneSort Q σ a1) : xM (SHP, γ) Y_Reader_isOneSort (d + 0) [.ref 24, .int a1] σ Q := by
  refine xM.of (by decide) (Nat.le_of_ble_eq_true rfl) ?_
  refine xJ.iload_n (o_Reader_isOneSort 0 rfl) rfl ?_
  refine xJ.iconst (v := 1) (o_Reader_isOneSort 1 rfl) (by decide) ?_
  refine xJ.iadd (o_Reader_isOneSort 2 rfl) ?_
  refine xJ.istore_n (o_Reader_isOneSort 3 rfl) (by decide) ?_
  replace h := h _ rfl
  obtain ⟨m, h⟩ := h
  exact xJ.lvs (by exact ⟨rfl, rfl, rfl, trivial⟩) (sw_Reader_isOneSort_4 m _ _ _ h)
def w_Reader_sortOfConcat_4 (Q : xO → xS → Prop) : Nat → Int32 → Int32 → xS → Prop
  | 0 => fun _ _ _ => False
  | n + 1 => fun a2 a3 σ =>
    (((xi σ 24 4) ≤ a3 → ((64 < a2 → Q (.inl (some (.int (-1)))) σ) ∧ (¬ 64 < a2 → Q (.inl (some (.int a2))) σ))) ∧ (¬ (xi σ 24 4) ≤ a3 → (vp_in a3 2400 ∧ (vp_in (xi σ 25 a3.toNatClampNeg) 2000 ∧ (∀ x1 : Int32, x1 = (xi σ 8 (xi σ 25 a3.toNatClampNeg).toNatClampNeg) → wp_Sorts_isVector (xqi (fun r3 u2 => ((¬ r3 = 0 → (∀ x4 : Int32, x4 = (a2 + x1) → (∀ x5 : Int32, x5 = a3 + 1 → w_Reader_sortOfConcat_4 Q n x4 x5 u2))) ∧ (r3 = 0 → Q (.inl (some (.int (-1)))) u2))) (fun n u => Q (.inr n) u)) σ x1)))))
def wp_Reader_sortOfConcat (Q : xO → xS → Prop) (σ : xS) (a1 : Int32) : Prop :=
  ∃ m, w_Reader_sortOfConcat_4 Q m 0 a1 σ
set_option maxRecDepth 20000 in
theorem sw_Reader_sortOfConcat_4 {γ : xG1} {d b0 : Nat} {Q : xO → xS → Prop} : ∀ (n : Nat) (a2 : Int32) (a3 : Int32) (σ : xS), w_Reader_sortOfConcat_4 Q n a2 a3 σ → xJ (SHP, γ) Y_Reader_sortOfConcat (d + 1) b0 4 [(0, .ref 24), (2, .int a2), (3, .int a3)] [] σ Q := by
  intro n
  induction n with
  | zero => intro a2 a3 σ h; exact h.elim
  | succ n ih =>
    intro a2 a3 σ h
    refine xJ.iload_n (o_Reader_sortOfConcat 4 rfl) rfl ?_
    refine xJ.aload_n (o_Reader_sortOfConcat 5 rfl) rfl ?_
    refine xJ.getfield (o_Reader_sortOfConcat 6 rfl) f_Reader_51 rfl rfl ?_
    refine xJ.icmp_ge (tgt := 49) (o_Reader_sortOfConcat 7 rfl) (by decide) (fun z => ?_) (fun z => ?_)
    · replace h := h.1 z
      refine xJ.iload_n (o_Reader_sortOfConcat 28 rfl) rfl ?_
      refine xJ.bipush (v := 64) (o_Reader_sortOfConcat 29 rfl) (by decide) ?_
      refine xJ.icmp_gt (tgt := 59) (o_Reader_sortOfConcat 30 rfl) (by decide) (fun z => ?_) (fun z => ?_)
      · replace h := h.1 z
        refine xJ.iconst (v := (-1)) (o_Reader_sortOfConcat 33 rfl) (by decide) ?_
        exact xJ.ireturn (o_Reader_sortOfConcat 34 rfl) rfl h
      · replace h := h.2 z
        refine xJ.iload_n (o_Reader_sortOfConcat 31 rfl) rfl ?_
        refine xJ.goto (tgt := 60) (o_Reader_sortOfConcat 32 rfl) (by decide) ?_
        exact xJ.ireturn (o_Reader_sortOfConcat 34 rfl) rfl h
    · replace h := h.2 z
      refine xJ.aload_n (o_Reader_sortOfConcat 8 rfl) rfl ?_
      refine xJ.getfield (o_Reader_sortOfConcat 9 rfl) f_Reader_42 rfl rfl ?_
      refine xJ.getfield (o_Reader_sortOfConcat 10 rfl) f_Reader_132 rfl rfl ?_
      refine xJ.aload_n (o_Reader_sortOfConcat 11 rfl) rfl ?_
      refine xJ.getfield (o_Reader_sortOfConcat 12 rfl) f_Reader_9 rfl rfl ?_
      refine xJ.iload_n (o_Reader_sortOfConcat 13 rfl) rfl ?_
      refine xJ.iaload (o_Reader_sortOfConcat 14 rfl) rfl h.1 ?_
      replace h := h.2
      refine xJ.iaload (o_Reader_sortOfConcat 15 rfl) rfl h.1 ?_
      replace h := h.2
      refine xJ.istore (o_Reader_sortOfConcat 16 rfl) (by decide) ?_
      replace h := h _ rfl
      refine xJ.iload (o_Reader_sortOfConcat 17 rfl) rfl ?_
      refine xJ.callS (Y' := Y_Sorts_isVector) (o_Reader_sortOfConcat 18 rfl) m_Reader_243 y_Sorts_isVector st_Sorts_isVector (s_Sorts_isVector h) rfl rfl (Nat.le_of_ble_eq_true rfl) (fun _ hx => by cases hx) (fun v u q => ?_) (fun n u q => q)
      obtain ⟨r, rfl, h⟩ := xqi_get q
      refine xJ.if_ne (tgt := 38) (o_Reader_sortOfConcat 19 rfl) (by decide) (fun z => ?_) (fun z => ?_)
      · replace h := h.1 z
        refine xJ.iload_n (o_Reader_sortOfConcat 22 rfl) rfl ?_
        refine xJ.iload (o_Reader_sortOfConcat 23 rfl) rfl ?_
        refine xJ.iadd (o_Reader_sortOfConcat 24 rfl) ?_
        refine xJ.istore_n (o_Reader_sortOfConcat 25 rfl) (by decide) ?_
        replace h := h _ rfl
        refine xJ.iincC (w := 1) (o_Reader_sortOfConcat 26 rfl) rfl (by decide) (by decide) ?_
        replace h := h _ rfl
        refine xJ.goto (tgt := 4) (o_Reader_sortOfConcat 27 rfl) (by decide) ?_
        exact xJ.lvs (by exact ⟨rfl, rfl, rfl, trivial⟩) (ih _ _ _ h)
      · replace h := h.2 z
        refine xJ.iconst (v := (-1)) (o_Reader_sortOfConcat 20 rfl) (by decide) ?_
        exact xJ.ireturn (o_Reader_sortOfConcat 21 rfl) rfl h
set_option maxRecDepth 20000 in
theorem s_Reader_sortOfConcat {γ : xG1} {d : Nat} {Q : xO → xS → Prop} {σ : xS} {a1 : Int32} (h : wp_Reader_sortOfConcat Q σ a1) : xM (SHP, γ) Y_Reader_sortOfConcat (d + 1) [.ref 24, .int a1] σ Q := by
  refine xM.of (by decide) (Nat.le_of_ble_eq_true rfl) ?_
  refine xJ.iconst (v := 0) (o_Reader_sortOfConcat 0 rfl) (by decide) ?_
  refine xJ.istore_n (o_Reader_sortOfConcat 1 rfl) (by decide) ?_
  refine xJ.iload_n (o_Reader_sortOfConcat 2 rfl) rfl ?_
  refine xJ.istore_n (o_Reader_sortOfConcat 3 rfl) (by decide) ?_
  obtain ⟨m, h⟩ := h
  exact xJ.lvs (by exact ⟨rfl, rfl, rfl, trivial⟩) (sw_Reader_sortOfConcat_4 m _ _ _ h)
def wp_Reader_sortOfArrayUse (Q : xO → xS → Prop) (σ : xS) (a1 : Int32) (a2 : Int32) : Prop :=
  (vp_in a2 2400 ∧ (vp_in (xi σ 25 a2.toNatClampNeg) 2000 ∧ (∀ x1 : Int32, x1 = (xi σ 8 (xi σ 25 a2.toNatClampNeg).toNatClampNeg) → wp_Sorts_isArray (xqi (fun r3 u2 => ((r3 = 0 → Q (.inl (some (.int (-1)))) u2) ∧ (¬ r3 = 0 → (vp_in (a2 + 1) 2400 ∧ (vp_in (xi u2 25 (a2 + 1).toNatClampNeg) 2000 ∧ wp_Sorts_indexWidth (xqi (fun r5 u4 => (((xi u2 8 (xi u2 25 (a2 + 1).toNatClampNeg).toNatClampNeg) = r5 → ((¬ a1 = 45 → (vp_in (a2 + 2) 2400 ∧ (vp_in (xi u4 25 (a2 + 2).toNatClampNeg) 2000 ∧ wp_Sorts_width (xqi (fun r7 u6 => ((¬ (xi u4 8 (xi u4 25 (a2 + 2).toNatClampNeg).toNatClampNeg) = r7 → Q (.inl (some (.int (-1)))) u6) ∧ ((xi u4 8 (xi u4 25 (a2 + 2).toNatClampNeg).toNatClampNeg) = r7 → Q (.inl (some (.int x1))) u6))) (fun n u => Q (.inr n) u)) u4 x1))) ∧ (a1 = 45 → wp_Sorts_width (xqi (fun r9 u8 => Q (.inl (some (.int r9))) u8) (fun n u => Q (.inr n) u)) u4 x1))) ∧ (¬ (xi u2 8 (xi u2 25 (a2 + 1).toNatClampNeg).toNatClampNeg) = r5 → Q (.inl (some (.int (-1)))) u4))) (fun n u => Q (.inr n) u)) u2 x1))))) (fun n u => Q (.inr n) u)) σ x1)))
set_option maxRecDepth 20000 in
theorem s_Reader_sortOfArrayUse {γ : xG1} {d : Nat} {Q : xO → xS → Prop} {σ : xS} {a1 : Int32} {a2 : Int32} (h : wp_Reader_sortOfArrayUse Q σ a1 a2) : xM (SHP, γ) Y_Reader_sortOfArrayUse (d + 1) [.ref 24, .int a1, .int a2] σ Q := by
  refine xM.of (by decide) (Nat.le_of_ble_eq_true rfl) ?_
  refine xJ.aload_n (o_Reader_sortOfArrayUse 0 rfl) rfl ?_
  refine xJ.getfield (o_Reader_sortOfArrayUse 1 rfl) f_Reader_42 rfl rfl ?_
  refine xJ.getfield (o_Reader_sortOfArrayUse 2 rfl) f_Reader_132 rfl rfl ?_
  refine xJ.aload_n (o_Reader_sortOfArrayUse 3 rfl) rfl ?_
  refine xJ.getfield (o_Reader_sortOfArrayUse 4 rfl) f_Reader_9 rfl rfl ?_
  refine xJ.iload_n (o_Reader_sortOfArrayUse 5 rfl) rfl ?_
  refine xJ.iaload (o_Reader_sortOfArrayUse 6 rfl) rfl h.1 ?_
  replace h := h.2
  refine xJ.iaload (o_Reader_sortOfArrayUse 7 rfl) rfl h.1 ?_
  replace h := h.2
  refine xJ.istore_n (o_Reader_sortOfArrayUse 8 rfl) (by decide) ?_
  replace h := h _ rfl
  refine xJ.iload_n (o_Reader_sortOfArrayUse 9 rfl) rfl ?_
  refine xJ.callS (Y' := Y_Sorts_isArray) (o_Reader_sortOfArrayUse 10 rfl) m_Reader_255 y_Sorts_isArray st_Sorts_isArray (s_Sorts_isArray h) rfl rfl (Nat.le_of_ble_eq_true rfl) (fun _ hx => by cases hx) (fun v u q => ?_) (fun n u q => q)
  obtain ⟨r, rfl, h⟩ := xqi_get q
  refine xJ.if_eq (tgt := 45) (o_Reader_sortOfArrayUse 11 rfl) (by decide) (fun z => ?_) (fun z => ?_)
  · replace h := h.1 z
    refine xJ.iconst (v := (-1)) (o_Reader_sortOfArrayUse 25 rfl) (by decide) ?_
    exact xJ.ireturn (o_Reader_sortOfArrayUse 26 rfl) rfl h
  · replace h := h.2 z
    refine xJ.aload_n (o_Reader_sortOfArrayUse 12 rfl) rfl ?_
    refine xJ.getfield (o_Reader_sortOfArrayUse 13 rfl) f_Reader_42 rfl rfl ?_
    refine xJ.getfield (o_Reader_sortOfArrayUse 14 rfl) f_Reader_132 rfl rfl ?_
    refine xJ.aload_n (o_Reader_sortOfArrayUse 15 rfl) rfl ?_
    refine xJ.getfield (o_Reader_sortOfArrayUse 16 rfl) f_Reader_9 rfl rfl ?_
    refine xJ.iload_n (o_Reader_sortOfArrayUse 17 rfl) rfl ?_
    refine xJ.iconst (v := 1) (o_Reader_sortOfArrayUse 18 rfl) (by decide) ?_
    refine xJ.iadd (o_Reader_sortOfArrayUse 19 rfl) ?_
    refine xJ.iaload (o_Reader_sortOfArrayUse 20 rfl) rfl h.1 ?_
    replace h := h.2
    refine xJ.iaload (o_Reader_sortOfArrayUse 21 rfl) rfl h.1 ?_
    replace h := h.2
    refine xJ.iload_n (o_Reader_sortOfArrayUse 22 rfl) rfl ?_
    refine xJ.callS (Y' := Y_Sorts_indexWidth) (o_Reader_sortOfArrayUse 23 rfl) m_Reader_258 y_Sorts_indexWidth st_Sorts_indexWidth (s_Sorts_indexWidth h) rfl rfl (Nat.le_of_ble_eq_true rfl) (fun _ hx => by cases hx) (fun v u q => ?_) (fun n u q => q)
    obtain ⟨r, rfl, h⟩ := xqi_get q
    refine xJ.icmp_eq (tgt := 47) (o_Reader_sortOfArrayUse 24 rfl) (by decide) (fun z => ?_) (fun z => ?_)
    · replace h := h.1 z
      refine xJ.iload_n (o_Reader_sortOfArrayUse 27 rfl) rfl ?_
      refine xJ.bipush (v := 45) (o_Reader_sortOfArrayUse 28 rfl) (by decide) ?_
      refine xJ.icmp_ne (tgt := 58) (o_Reader_sortOfArrayUse 29 rfl) (by decide) (fun z => ?_) (fun z => ?_)
      · replace h := h.1 z
        refine xJ.aload_n (o_Reader_sortOfArrayUse 33 rfl) rfl ?_
        refine xJ.getfield (o_Reader_sortOfArrayUse 34 rfl) f_Reader_42 rfl rfl ?_
        refine xJ.getfield (o_Reader_sortOfArrayUse 35 rfl) f_Reader_132 rfl rfl ?_
        refine xJ.aload_n (o_Reader_sortOfArrayUse 36 rfl) rfl ?_
        refine xJ.getfield (o_Reader_sortOfArrayUse 37 rfl) f_Reader_9 rfl rfl ?_
        refine xJ.iload_n (o_Reader_sortOfArrayUse 38 rfl) rfl ?_
        refine xJ.iconst (v := 2) (o_Reader_sortOfArrayUse 39 rfl) (by decide) ?_
        refine xJ.iadd (o_Reader_sortOfArrayUse 40 rfl) ?_
        refine xJ.iaload (o_Reader_sortOfArrayUse 41 rfl) rfl h.1 ?_
        replace h := h.2
        refine xJ.iaload (o_Reader_sortOfArrayUse 42 rfl) rfl h.1 ?_
        replace h := h.2
        refine xJ.iload_n (o_Reader_sortOfArrayUse 43 rfl) rfl ?_
        refine xJ.callS (Y' := Y_Sorts_width) (o_Reader_sortOfArrayUse 44 rfl) m_Reader_261 y_Sorts_width st_Sorts_width (s_Sorts_width h) rfl rfl (Nat.le_of_ble_eq_true rfl) (fun _ hx => by cases hx) (fun v u q => ?_) (fun n u q => q)
        obtain ⟨r, rfl, h⟩ := xqi_get q
        refine xJ.icmp_ne (tgt := 85) (o_Reader_sortOfArrayUse 45 rfl) (by decide) (fun z => ?_) (fun z => ?_)
        · replace h := h.1 z
          refine xJ.iconst (v := (-1)) (o_Reader_sortOfArrayUse 48 rfl) (by decide) ?_
          exact xJ.ireturn (o_Reader_sortOfArrayUse 49 rfl) rfl h
        · replace h := h.2 z
          refine xJ.iload_n (o_Reader_sortOfArrayUse 46 rfl) rfl ?_
          refine xJ.goto (tgt := 86) (o_Reader_sortOfArrayUse 47 rfl) (by decide) ?_
          exact xJ.ireturn (o_Reader_sortOfArrayUse 49 rfl) rfl h
      · replace h := h.2 z
        refine xJ.iload_n (o_Reader_sortOfArrayUse 30 rfl) rfl ?_
        refine xJ.callS (Y' := Y_Sorts_width) (o_Reader_sortOfArrayUse 31 rfl) m_Reader_261 y_Sorts_width st_Sorts_width (s_Sorts_width h) rfl rfl (Nat.le_of_ble_eq_true rfl) (fun _ hx => by cases hx) (fun v u q => ?_) (fun n u q => q)
        obtain ⟨r, rfl, h⟩ := xqi_get q
        exact xJ.ireturn (o_Reader_sortOfArrayUse 32 rfl) rfl h
    · replace h := h.2 z
      refine xJ.iconst (v := (-1)) (o_Reader_sortOfArrayUse 25 rfl) (by decide) ?_
      exact xJ.ireturn (o_Reader_sortOfArrayUse 26 rfl) rfl h
theorem sc_Reader_sortOfResult_22 {x : Int32} {P : Nat → Prop} (k0 : x = 10 → P 264) (k1 : x = 11 ∨ x = 12 → P 293) (k2 : x = 13 ∨ x = 14 ∨ x = 15 ∨ x = 16 ∨ x = 17 → P 184) (k3 : x = 18 → P 216) (k4 : x = 19 ∨ x = 20 → P 202) (k5 : x = 36 ∨ x = 37 ∨ x = 38 ∨ x = 39 ∨ x = 40 ∨ x = 41 ∨ x = 42 ∨ x = 43 → P 320) (k6 : x = 44 → P 251) (k7 : x = 45 ∨ x = 46 → P 257) (kd : ¬ x = 10 ∧ ¬ x = 11 ∧ ¬ x = 12 ∧ ¬ x = 13 ∧ ¬ x = 14 ∧ ¬ x = 15 ∧ ¬ x = 16 ∧ ¬ x = 17 ∧ ¬ x = 18 ∧ ¬ x = 19 ∧ ¬ x = 20 ∧ ¬ x = 36 ∧ ¬ x = 37 ∧ ¬ x = 38 ∧ ¬ x = 39 ∧ ¬ x = 40 ∧ ¬ x = 41 ∧ ¬ x = 42 ∧ ¬ x = 43 ∧ ¬ x = 44 ∧ ¬ x = 45 ∧ ¬ x = 46 → P 339) : ∃ t : Nat, xdst 22 317 10 46 #[242, 271, 271, 162, 162, 162, 162, 162, 194, 180, 180, 317, 317, 317, 317, 317, 317, 317, 317, 317, 317, 317, 317, 317, 317, 317, 298, 298, 298, 298, 298, 298, 298, 298, 229, 235, 235] x = (t : Int) ∧ P t := by
  by_cases h0_0 : x = 10
  · subst h0_0; exact ⟨264, by decide, k0 (rfl)⟩
  by_cases h1_0 : x = 11
  · subst h1_0; exact ⟨293, by decide, k1 (Or.inl rfl)⟩
  by_cases h1_1 : x = 12
  · subst h1_1; exact ⟨293, by decide, k1 (Or.inr (rfl))⟩
  by_cases h2_0 : x = 13
  · subst h2_0; exact ⟨184, by decide, k2 (Or.inl rfl)⟩
  by_cases h2_1 : x = 14
  · subst h2_1; exact ⟨184, by decide, k2 (Or.inr (Or.inl rfl))⟩
  by_cases h2_2 : x = 15
  · subst h2_2; exact ⟨184, by decide, k2 (Or.inr (Or.inr (Or.inl rfl)))⟩
  by_cases h2_3 : x = 16
  · subst h2_3; exact ⟨184, by decide, k2 (Or.inr (Or.inr (Or.inr (Or.inl rfl))))⟩
  by_cases h2_4 : x = 17
  · subst h2_4; exact ⟨184, by decide, k2 (Or.inr (Or.inr (Or.inr (Or.inr (rfl)))))⟩
  by_cases h3_0 : x = 18
  · subst h3_0; exact ⟨216, by decide, k3 (rfl)⟩
  by_cases h4_0 : x = 19
  · subst h4_0; exact ⟨202, by decide, k4 (Or.inl rfl)⟩
  by_cases h4_1 : x = 20
  · subst h4_1; exact ⟨202, by decide, k4 (Or.inr (rfl))⟩
  by_cases h5_0 : x = 36
  · subst h5_0; exact ⟨320, by decide, k5 (Or.inl rfl)⟩
  by_cases h5_1 : x = 37
  · subst h5_1; exact ⟨320, by decide, k5 (Or.inr (Or.inl rfl))⟩
  by_cases h5_2 : x = 38
  · subst h5_2; exact ⟨320, by decide, k5 (Or.inr (Or.inr (Or.inl rfl)))⟩
  by_cases h5_3 : x = 39
  · subst h5_3; exact ⟨320, by decide, k5 (Or.inr (Or.inr (Or.inr (Or.inl rfl))))⟩
  by_cases h5_4 : x = 40
  · subst h5_4; exact ⟨320, by decide, k5 (Or.inr (Or.inr (Or.inr (Or.inr (Or.inl rfl)))))⟩
  by_cases h5_5 : x = 41
  · subst h5_5; exact ⟨320, by decide, k5 (Or.inr (Or.inr (Or.inr (Or.inr (Or.inr (Or.inl rfl))))))⟩
  by_cases h5_6 : x = 42
  · subst h5_6; exact ⟨320, by decide, k5 (Or.inr (Or.inr (Or.inr (Or.inr (Or.inr (Or.inr (Or.inl rfl)))))))⟩
  by_cases h5_7 : x = 43
  · subst h5_7; exact ⟨320, by decide, k5 (Or.inr (Or.inr (Or.inr (Or.inr (Or.inr (Or.inr (Or.inr (rfl))))))))⟩
  by_cases h6_0 : x = 44
  · subst h6_0; exact ⟨251, by decide, k6 (rfl)⟩
  by_cases h7_0 : x = 45
  · subst h7_0; exact ⟨257, by decide, k7 (Or.inl rfl)⟩
  by_cases h7_1 : x = 46
  · subst h7_1; exact ⟨257, by decide, k7 (Or.inr (rfl))⟩
  have nh0_0 := lv_neT h0_0 (show (10 : Int32).toInt = 10 by decide)
  have nh1_0 := lv_neT h1_0 (show (11 : Int32).toInt = 11 by decide)
  have nh1_1 := lv_neT h1_1 (show (12 : Int32).toInt = 12 by decide)
  have nh2_0 := lv_neT h2_0 (show (13 : Int32).toInt = 13 by decide)
  have nh2_1 := lv_neT h2_1 (show (14 : Int32).toInt = 14 by decide)
  have nh2_2 := lv_neT h2_2 (show (15 : Int32).toInt = 15 by decide)
  have nh2_3 := lv_neT h2_3 (show (16 : Int32).toInt = 16 by decide)
  have nh2_4 := lv_neT h2_4 (show (17 : Int32).toInt = 17 by decide)
  have nh3_0 := lv_neT h3_0 (show (18 : Int32).toInt = 18 by decide)
  have nh4_0 := lv_neT h4_0 (show (19 : Int32).toInt = 19 by decide)
  have nh4_1 := lv_neT h4_1 (show (20 : Int32).toInt = 20 by decide)
  have nh5_0 := lv_neT h5_0 (show (36 : Int32).toInt = 36 by decide)
  have nh5_1 := lv_neT h5_1 (show (37 : Int32).toInt = 37 by decide)
  have nh5_2 := lv_neT h5_2 (show (38 : Int32).toInt = 38 by decide)
  have nh5_3 := lv_neT h5_3 (show (39 : Int32).toInt = 39 by decide)
  have nh5_4 := lv_neT h5_4 (show (40 : Int32).toInt = 40 by decide)
  have nh5_5 := lv_neT h5_5 (show (41 : Int32).toInt = 41 by decide)
  have nh5_6 := lv_neT h5_6 (show (42 : Int32).toInt = 42 by decide)
  have nh5_7 := lv_neT h5_7 (show (43 : Int32).toInt = 43 by decide)
  have nh6_0 := lv_neT h6_0 (show (44 : Int32).toInt = 44 by decide)
  have nh7_0 := lv_neT h7_0 (show (45 : Int32).toInt = 45 by decide)
  have nh7_1 := lv_neT h7_1 (show (46 : Int32).toInt = 46 by decide)
  refine ⟨339, ?_, kd ⟨h0_0, h1_0, h1_1, h2_0, h2_1, h2_2, h2_3, h2_4, h3_0, h4_0, h4_1, h5_0, h5_1, h5_2, h5_3, h5_4, h5_5, h5_6, h5_7, h6_0, h7_0, h7_1⟩⟩
  by_cases d11 : x = 21
  · subst d11; decide
  by_cases d12 : x = 22
  · subst d12; decide
  by_cases d13 : x = 23
  · subst d13; decide
  by_cases d14 : x = 24
  · subst d14; decide
  by_cases d15 : x = 25
  · subst d15; decide
  by_cases d16 : x = 26
  · subst d16; decide
  by_cases d17 : x = 27
  · subst d17; decide
  by_cases d18 : x = 28
  · subst d18; decide
  by_cases d19 : x = 29
  · subst d19; decide
  by_cases d20 : x = 30
  · subst d20; decide
  by_cases d21 : x = 31
  · subst d21; decide
  by_cases d22 : x = 32
  · subst d22; decide
  by_cases d23 : x = 33
  · subst d23; decide
  by_cases d24 : x = 34
  · subst d24; decide
  by_cases d25 : x = 35
  · subst d25; decide
  have nd11 := lv_neT d11 (show (21 : Int32).toInt = 21 by decide)
  have nd12 := lv_neT d12 (show (22 : Int32).toInt = 22 by decide)
  have nd13 := lv_neT d13 (show (23 : Int32).toInt = 23 by decide)
  have nd14 := lv_neT d14 (show (24 : Int32).toInt = 24 by decide)
  have nd15 := lv_neT d15 (show (25 : Int32).toInt = 25 by decide)
  have nd16 := lv_neT d16 (show (26 : Int32).toInt = 26 by decide)
  have nd17 := lv_neT d17 (show (27 : Int32).toInt = 27 by decide)
  have nd18 := lv_neT d18 (show (28 : Int32).toInt = 28 by decide)
  have nd19 := lv_neT d19 (show (29 : Int32).toInt = 29 by decide)
  have nd20 := lv_neT d20 (show (30 : Int32).toInt = 30 by decide)
  have nd21 := lv_neT d21 (show (31 : Int32).toInt = 31 by decide)
  have nd22 := lv_neT d22 (show (32 : Int32).toInt = 32 by decide)
  have nd23 := lv_neT d23 (show (33 : Int32).toInt = 33 by decide)
  have nd24 := lv_neT d24 (show (34 : Int32).toInt = 34 by decide)
  have nd25 := lv_neT d25 (show (35 : Int32).toInt = 35 by decide)
  exact xdst_out (by omega) rfl
def wp_Reader_sortOfResult (Q : xO → xS → Prop) (σ : xS) (a1 : Int32) (a2 : Int32) : Prop :=
  (vp_in a2 2400 ∧ (vp_in (xi σ 25 a2.toNatClampNeg) 2000 ∧ (∀ x1 : Int32, x1 = (xi σ 8 (xi σ 25 a2.toNatClampNeg).toNatClampNeg) → wp_Sorts_isVector (xqi (fun r3 u2 => ((a1 = 10 → ((r3 = 0 → Q (.inl (some (.int (-1)))) u2) ∧ (¬ r3 = 0 → ((x1 ≤ (xi u2 24 10) → Q (.inl (some (.int (-1)))) u2) ∧ (¬ x1 ≤ (xi u2 24 10) → Q (.inl (some (.int (((xi u2 24 10) - (xi u2 24 11)) + 1)))) u2))))) ∧ (a1 = 11 ∨ a1 = 12 → ((r3 = 0 → Q (.inl (some (.int (-1)))) u2) ∧ (¬ r3 = 0 → (((64 - x1) < (xi u2 24 10) → Q (.inl (some (.int (-1)))) u2) ∧ (¬ (64 - x1) < (xi u2 24 10) → Q (.inl (some (.int (x1 + (xi u2 24 10))))) u2))))) ∧ (a1 = 13 ∨ a1 = 14 ∨ a1 = 15 ∨ a1 = 16 ∨ a1 = 17 → ((¬ x1 = 0 → Q (.inl (some (.int (-1)))) u2) ∧ (x1 = 0 → wp_Reader_isOneSort (xqi (fun r5 u4 => ((r5 = 0 → Q (.inl (some (.int (-1)))) u4) ∧ (¬ r5 = 0 → Q (.inl (some (.int 0))) u4))) (fun n u => Q (.inr n) u)) u2 a2))) ∧ (a1 = 18 → ((¬ x1 = 0 → Q (.inl (some (.int (-1)))) u2) ∧ (x1 = 0 → wp_Reader_isOneSort (xqi (fun r7 u6 => ((r7 = 0 → Q (.inl (some (.int (-1)))) u6) ∧ (¬ r7 = 0 → (vp_in (a2 + 1) 2400 ∧ (vp_in (xi u6 25 (a2 + 1).toNatClampNeg) 2000 ∧ Q (.inl (some (.int (xi u6 8 (xi u6 25 (a2 + 1).toNatClampNeg).toNatClampNeg)))) u6))))) (fun n u => Q (.inr n) u)) u2 (a2 + 1)))) ∧ (a1 = 19 ∨ a1 = 20 → wp_Reader_isOneSort (xqi (fun r9 u8 => ((r9 = 0 → Q (.inl (some (.int (-1)))) u8) ∧ (¬ r9 = 0 → Q (.inl (some (.int 0))) u8))) (fun n u => Q (.inr n) u)) u2 a2) ∧ (a1 = 36 ∨ a1 = 37 ∨ a1 = 38 ∨ a1 = 39 ∨ a1 = 40 ∨ a1 = 41 ∨ a1 = 42 ∨ a1 = 43 → ((r3 = 0 → Q (.inl (some (.int (-1)))) u2) ∧ (¬ r3 = 0 → wp_Reader_isOneSort (xqi (fun r11 u10 => ((r11 = 0 → Q (.inl (some (.int (-1)))) u10) ∧ (¬ r11 = 0 → Q (.inl (some (.int 0))) u10))) (fun n u => Q (.inr n) u)) u2 a2))) ∧ (a1 = 44 → wp_Reader_sortOfConcat (xqi (fun r13 u12 => Q (.inl (some (.int r13))) u12) (fun n u => Q (.inr n) u)) u2 a2) ∧ (a1 = 45 ∨ a1 = 46 → wp_Reader_sortOfArrayUse (xqi (fun r15 u14 => Q (.inl (some (.int r15))) u14) (fun n u => Q (.inr n) u)) u2 a1 a2) ∧ (¬ a1 = 10 ∧ ¬ a1 = 11 ∧ ¬ a1 = 12 ∧ ¬ a1 = 13 ∧ ¬ a1 = 14 ∧ ¬ a1 = 15 ∧ ¬ a1 = 16 ∧ ¬ a1 = 17 ∧ ¬ a1 = 18 ∧ ¬ a1 = 19 ∧ ¬ a1 = 20 ∧ ¬ a1 = 36 ∧ ¬ a1 = 37 ∧ ¬ a1 = 38 ∧ ¬ a1 = 39 ∧ ¬ a1 = 40 ∧ ¬ a1 = 41 ∧ ¬ a1 = 42 ∧ ¬ a1 = 43 ∧ ¬ a1 = 44 ∧ ¬ a1 = 45 ∧ ¬ a1 = 46 → ((r3 = 0 → Q (.inl (some (.int (-1)))) u2) ∧ (¬ r3 = 0 → wp_Reader_isOneSort (xqi (fun r17 u16 => ((r17 = 0 → Q (.inl (some (.int (-1)))) u16) ∧ (¬ r17 = 0 → Q (.inl (some (.int x1))) u16))) (fun n u => Q (.inr n) u)) u2 a2))))) (fun n u => Q (.inr n) u)) σ x1)))
set_option maxRecDepth 20000 in
theorem s_Reader_sortOfResult {γ : xG1} {d : Nat} {Q : xO → xS → Prop} {σ : xS} {a1 : Int32} {a2 : Int32} (h : wp_Reader_sortOfResult Q σ a1 a2) : xM (SHP, γ) Y_Reader_sortOfResult (d + 2) [.ref 24, .int a1, .int a2] σ Q := by
  refine xM.of (by decide) (Nat.le_of_ble_eq_true rfl) ?_
  refine xJ.aload_n (o_Reader_sortOfResult 0 rfl) rfl ?_
  refine xJ.getfield (o_Reader_sortOfResult 1 rfl) f_Reader_42 rfl rfl ?_
  refine xJ.getfield (o_Reader_sortOfResult 2 rfl) f_Reader_132 rfl rfl ?_
  refine xJ.aload_n (o_Reader_sortOfResult 3 rfl) rfl ?_
  refine xJ.getfield (o_Reader_sortOfResult 4 rfl) f_Reader_9 rfl rfl ?_
  refine xJ.iload_n (o_Reader_sortOfResult 5 rfl) rfl ?_
  refine xJ.iaload (o_Reader_sortOfResult 6 rfl) rfl h.1 ?_
  replace h := h.2
  refine xJ.iaload (o_Reader_sortOfResult 7 rfl) rfl h.1 ?_
  replace h := h.2
  refine xJ.istore_n (o_Reader_sortOfResult 8 rfl) (by decide) ?_
  replace h := h _ rfl
  refine xJ.iload_n (o_Reader_sortOfResult 9 rfl) rfl ?_
  refine xJ.callS (Y' := Y_Sorts_isVector) (o_Reader_sortOfResult 10 rfl) m_Reader_243 y_Sorts_isVector st_Sorts_isVector (s_Sorts_isVector h) rfl rfl (Nat.le_of_ble_eq_true rfl) (fun _ hx => by cases hx) (fun v u q => ?_) (fun n u q => q)
  obtain ⟨r, rfl, h⟩ := xqi_get q
  refine xJ.istore (o_Reader_sortOfResult 11 rfl) (by decide) ?_
  refine xJ.iload_n (o_Reader_sortOfResult 12 rfl) rfl ?_
  refine xJ.tsw (o_Reader_sortOfResult 13 rfl) (by decide) (sc_Reader_sortOfResult_22 (fun z => ?_) (fun z => ?_) (fun z => ?_) (fun z => ?_) (fun z => ?_) (fun z => ?_) (fun z => ?_) (fun z => ?_) (fun z => ?_))
  · replace h := h.1 z
    refine xJ.iload (o_Reader_sortOfResult 62 rfl) rfl ?_
    refine xJ.if_eq (tgt := 291) (o_Reader_sortOfResult 63 rfl) (by decide) (fun z => ?_) (fun z => ?_)
    · replace h := h.1 z
      refine xJ.iconst (v := (-1)) (o_Reader_sortOfResult 76 rfl) (by decide) ?_
      exact xJ.ireturn (o_Reader_sortOfResult 77 rfl) rfl h
    · replace h := h.2 z
      refine xJ.aload_n (o_Reader_sortOfResult 64 rfl) rfl ?_
      refine xJ.getfield (o_Reader_sortOfResult 65 rfl) f_Reader_201 rfl rfl ?_
      refine xJ.iload_n (o_Reader_sortOfResult 66 rfl) rfl ?_
      refine xJ.icmp_ge (tgt := 291) (o_Reader_sortOfResult 67 rfl) (by decide) (fun z => ?_) (fun z => ?_)
      · replace h := h.1 z
        refine xJ.iconst (v := (-1)) (o_Reader_sortOfResult 76 rfl) (by decide) ?_
        exact xJ.ireturn (o_Reader_sortOfResult 77 rfl) rfl h
      · replace h := h.2 z
        refine xJ.aload_n (o_Reader_sortOfResult 68 rfl) rfl ?_
        refine xJ.getfield (o_Reader_sortOfResult 69 rfl) f_Reader_201 rfl rfl ?_
        refine xJ.aload_n (o_Reader_sortOfResult 70 rfl) rfl ?_
        refine xJ.getfield (o_Reader_sortOfResult 71 rfl) f_Reader_204 rfl rfl ?_
        refine xJ.isub (o_Reader_sortOfResult 72 rfl) ?_
        refine xJ.iconst (v := 1) (o_Reader_sortOfResult 73 rfl) (by decide) ?_
        refine xJ.iadd (o_Reader_sortOfResult 74 rfl) ?_
        refine xJ.goto (tgt := 292) (o_Reader_sortOfResult 75 rfl) (by decide) ?_
        exact xJ.ireturn (o_Reader_sortOfResult 77 rfl) rfl h
  · replace h := h.2.1 z
    refine xJ.iload (o_Reader_sortOfResult 78 rfl) rfl ?_
    refine xJ.if_eq (tgt := 318) (o_Reader_sortOfResult 79 rfl) (by decide) (fun z => ?_) (fun z => ?_)
    · replace h := h.1 z
      refine xJ.iconst (v := (-1)) (o_Reader_sortOfResult 91 rfl) (by decide) ?_
      exact xJ.ireturn (o_Reader_sortOfResult 92 rfl) rfl h
    · replace h := h.2 z
      refine xJ.aload_n (o_Reader_sortOfResult 80 rfl) rfl ?_
      refine xJ.getfield (o_Reader_sortOfResult 81 rfl) f_Reader_201 rfl rfl ?_
      refine xJ.bipush (v := 64) (o_Reader_sortOfResult 82 rfl) (by decide) ?_
      refine xJ.iload_n (o_Reader_sortOfResult 83 rfl) rfl ?_
      refine xJ.isub (o_Reader_sortOfResult 84 rfl) ?_
      refine xJ.icmp_gt (tgt := 318) (o_Reader_sortOfResult 85 rfl) (by decide) (fun z => ?_) (fun z => ?_)
      · replace h := h.1 z
        refine xJ.iconst (v := (-1)) (o_Reader_sortOfResult 91 rfl) (by decide) ?_
        exact xJ.ireturn (o_Reader_sortOfResult 92 rfl) rfl h
      · replace h := h.2 z
        refine xJ.iload_n (o_Reader_sortOfResult 86 rfl) rfl ?_
        refine xJ.aload_n (o_Reader_sortOfResult 87 rfl) rfl ?_
        refine xJ.getfield (o_Reader_sortOfResult 88 rfl) f_Reader_201 rfl rfl ?_
        refine xJ.iadd (o_Reader_sortOfResult 89 rfl) ?_
        refine xJ.goto (tgt := 319) (o_Reader_sortOfResult 90 rfl) (by decide) ?_
        exact xJ.ireturn (o_Reader_sortOfResult 92 rfl) rfl h
  · replace h := h.2.2.1 z
    refine xJ.iload_n (o_Reader_sortOfResult 14 rfl) rfl ?_
    refine xJ.if_ne (tgt := 200) (o_Reader_sortOfResult 15 rfl) (by decide) (fun z => ?_) (fun z => ?_)
    · replace h := h.1 z
      refine xJ.iconst (v := (-1)) (o_Reader_sortOfResult 22 rfl) (by decide) ?_
      exact xJ.ireturn (o_Reader_sortOfResult 23 rfl) rfl h
    · replace h := h.2 z
      refine xJ.aload_n (o_Reader_sortOfResult 16 rfl) rfl ?_
      refine xJ.iload_n (o_Reader_sortOfResult 17 rfl) rfl ?_
      refine xJ.callV (Y' := Y_Reader_isOneSort) (o_Reader_sortOfResult 18 rfl) m_Reader_246 y_Reader_isOneSort im_Reader_isOneSort se_Reader_isOneSort rfl rfl (s_Reader_isOneSort h) rfl rfl (Nat.le_of_ble_eq_true rfl) (fun _ hx => by cases hx) (fun v u q => ?_) (fun n u q => q)
      obtain ⟨r, rfl, h⟩ := xqi_get q
      refine xJ.if_eq (tgt := 200) (o_Reader_sortOfResult 19 rfl) (by decide) (fun z => ?_) (fun z => ?_)
      · replace h := h.1 z
        refine xJ.iconst (v := (-1)) (o_Reader_sortOfResult 22 rfl) (by decide) ?_
        exact xJ.ireturn (o_Reader_sortOfResult 23 rfl) rfl h
      · replace h := h.2 z
        refine xJ.iconst (v := 0) (o_Reader_sortOfResult 20 rfl) (by decide) ?_
        refine xJ.goto (tgt := 201) (o_Reader_sortOfResult 21 rfl) (by decide) ?_
        exact xJ.ireturn (o_Reader_sortOfResult 23 rfl) rfl h
  · replace h := h.2.2.2.1 z
    refine xJ.iload_n (o_Reader_sortOfResult 32 rfl) rfl ?_
    refine xJ.if_ne (tgt := 249) (o_Reader_sortOfResult 33 rfl) (by decide) (fun z => ?_) (fun z => ?_)
    · replace h := h.1 z
      refine xJ.iconst (v := (-1)) (o_Reader_sortOfResult 51 rfl) (by decide) ?_
      exact xJ.ireturn (o_Reader_sortOfResult 52 rfl) rfl h
    · replace h := h.2 z
      refine xJ.aload_n (o_Reader_sortOfResult 34 rfl) rfl ?_
      refine xJ.iload_n (o_Reader_sortOfResult 35 rfl) rfl ?_
      refine xJ.iconst (v := 1) (o_Reader_sortOfResult 36 rfl) (by decide) ?_
      refine xJ.iadd (o_Reader_sortOfResult 37 rfl) ?_
      refine xJ.callV (Y' := Y_Reader_isOneSort) (o_Reader_sortOfResult 38 rfl) m_Reader_246 y_Reader_isOneSort im_Reader_isOneSort se_Reader_isOneSort rfl rfl (s_Reader_isOneSort h) rfl rfl (Nat.le_of_ble_eq_true rfl) (fun _ hx => by cases hx) (fun v u q => ?_) (fun n u q => q)
      obtain ⟨r, rfl, h⟩ := xqi_get q
      refine xJ.if_eq (tgt := 249) (o_Reader_sortOfResult 39 rfl) (by decide) (fun z => ?_) (fun z => ?_)
      · replace h := h.1 z
        refine xJ.iconst (v := (-1)) (o_Reader_sortOfResult 51 rfl) (by decide) ?_
        exact xJ.ireturn (o_Reader_sortOfResult 52 rfl) rfl h
      · replace h := h.2 z
        refine xJ.aload_n (o_Reader_sortOfResult 40 rfl) rfl ?_
        refine xJ.getfield (o_Reader_sortOfResult 41 rfl) f_Reader_42 rfl rfl ?_
        refine xJ.getfield (o_Reader_sortOfResult 42 rfl) f_Reader_132 rfl rfl ?_
        refine xJ.aload_n (o_Reader_sortOfResult 43 rfl) rfl ?_
        refine xJ.getfield (o_Reader_sortOfResult 44 rfl) f_Reader_9 rfl rfl ?_
        refine xJ.iload_n (o_Reader_sortOfResult 45 rfl) rfl ?_
        refine xJ.iconst (v := 1) (o_Reader_sortOfResult 46 rfl) (by decide) ?_
        refine xJ.iadd (o_Reader_sortOfResult 47 rfl) ?_
        refine xJ.iaload (o_Reader_sortOfResult 48 rfl) rfl h.1 ?_
        replace h := h.2
        refine xJ.iaload (o_Reader_sortOfResult 49 rfl) rfl h.1 ?_
        replace h := h.2
        refine xJ.goto (tgt := 250) (o_Reader_sortOfResult 50 rfl) (by decide) ?_
        exact xJ.ireturn (o_Reader_sortOfResult 52 rfl) rfl h
  · replace h := h.2.2.2.2.1 z
    refine xJ.aload_n (o_Reader_sortOfResult 24 rfl) rfl ?_
    refine xJ.iload_n (o_Reader_sortOfResult 25 rfl) rfl ?_
    refine xJ.callV (Y' := Y_Reader_isOneSort) (o_Reader_sortOfResult 26 rfl) m_Reader_246 y_Reader_isOneSort im_Reader_isOneSort se_Reader_isOneSort rfl rfl (s_Reader_isOneSort h) rfl rfl (Nat.le_of_ble_eq_true rfl) (fun _ hx => by cases hx) (fun v u q => ?_) (fun n u q => q)
    obtain ⟨r, rfl, h⟩ := xqi_get q
    refine xJ.if_eq (tgt := 214) (o_Reader_sortOfResult 27 rfl) (by decide) (fun z => ?_) (fun z => ?_)
    · replace h := h.1 z
      refine xJ.iconst (v := (-1)) (o_Reader_sortOfResult 30 rfl) (by decide) ?_
      exact xJ.ireturn (o_Reader_sortOfResult 31 rfl) rfl h
    · replace h := h.2 z
      refine xJ.iconst (v := 0) (o_Reader_sortOfResult 28 rfl) (by decide) ?_
      refine xJ.goto (tgt := 215) (o_Reader_sortOfResult 29 rfl) (by decide) ?_
      exact xJ.ireturn (o_Reader_sortOfResult 31 rfl) rfl h
  · replace h := h.2.2.2.2.2.1 z
    refine xJ.iload (o_Reader_sortOfResult 93 rfl) rfl ?_
    refine xJ.if_eq (tgt := 337) (o_Reader_sortOfResult 94 rfl) (by decide) (fun z => ?_) (fun z => ?_)
    · replace h := h.1 z
      refine xJ.iconst (v := (-1)) (o_Reader_sortOfResult 101 rfl) (by decide) ?_
      exact xJ.ireturn (o_Reader_sortOfResult 102 rfl) rfl h
    · replace h := h.2 z
      refine xJ.aload_n (o_Reader_sortOfResult 95 rfl) rfl ?_
      refine xJ.iload_n (o_Reader_sortOfResult 96 rfl) rfl ?_
      refine xJ.callV (Y' := Y_Reader_isOneSort) (o_Reader_sortOfResult 97 rfl) m_Reader_246 y_Reader_isOneSort im_Reader_isOneSort se_Reader_isOneSort rfl rfl (s_Reader_isOneSort h) rfl rfl (Nat.le_of_ble_eq_true rfl) (fun _ hx => by cases hx) (fun v u q => ?_) (fun n u q => q)
      obtain ⟨r, rfl, h⟩ := xqi_get q
      refine xJ.if_eq (tgt := 337) (o_Reader_sortOfResult 98 rfl) (by decide) (fun z => ?_) (fun z => ?_)
      · replace h := h.1 z
        refine xJ.iconst (v := (-1)) (o_Reader_sortOfResult 101 rfl) (by decide) ?_
        exact xJ.ireturn (o_Reader_sortOfResult 102 rfl) rfl h
      · replace h := h.2 z
        refine xJ.iconst (v := 0) (o_Reader_sortOfResult 99 rfl) (by decide) ?_
        refine xJ.goto (tgt := 338) (o_Reader_sortOfResult 100 rfl) (by decide) ?_
        exact xJ.ireturn (o_Reader_sortOfResult 102 rfl) rfl h
  · replace h := h.2.2.2.2.2.2.1 z
    refine xJ.aload_n (o_Reader_sortOfResult 53 rfl) rfl ?_
    refine xJ.iload_n (o_Reader_sortOfResult 54 rfl) rfl ?_
    refine xJ.callV (Y' := Y_Reader_sortOfConcat) (o_Reader_sortOfResult 55 rfl) m_Reader_249 y_Reader_sortOfConcat im_Reader_sortOfConcat se_Reader_sortOfConcat rfl rfl (s_Reader_sortOfConcat h) rfl rfl (Nat.le_of_ble_eq_true rfl) (fun _ hx => by cases hx) (fun v u q => ?_) (fun n u q => q)
    obtain ⟨r, rfl, h⟩ := xqi_get q
    exact xJ.ireturn (o_Reader_sortOfResult 56 rfl) rfl h
  · replace h := h.2.2.2.2.2.2.2.1 z
    refine xJ.aload_n (o_Reader_sortOfResult 57 rfl) rfl ?_
    refine xJ.iload_n (o_Reader_sortOfResult 58 rfl) rfl ?_
    refine xJ.iload_n (o_Reader_sortOfResult 59 rfl) rfl ?_
    refine xJ.callV (Y' := Y_Reader_sortOfArrayUse) (o_Reader_sortOfResult 60 rfl) m_Reader_252 y_Reader_sortOfArrayUse im_Reader_sortOfArrayUse se_Reader_sortOfArrayUse rfl rfl (s_Reader_sortOfArrayUse h) rfl rfl (Nat.le_of_ble_eq_true rfl) (fun _ hx => by cases hx) (fun v u q => ?_) (fun n u q => q)
    obtain ⟨r, rfl, h⟩ := xqi_get q
    exact xJ.ireturn (o_Reader_sortOfResult 61 rfl) rfl h
  · replace h := h.2.2.2.2.2.2.2.2 z
    refine xJ.iload (o_Reader_sortOfResult 103 rfl) rfl ?_
    refine xJ.if_eq (tgt := 356) (o_Reader_sortOfResult 104 rfl) (by decide) (fun z => ?_) (fun z => ?_)
    · replace h := h.1 z
      refine xJ.iconst (v := (-1)) (o_Reader_sortOfResult 111 rfl) (by decide) ?_
      exact xJ.ireturn (o_Reader_sortOfResult 112 rfl) rfl h
    · replace h := h.2 z
      refine xJ.aload_n (o_Reader_sortOfResult 105 rfl) rfl ?_
      refine xJ.iload_n (o_Reader_sortOfResult 106 rfl) rfl ?_
      refine xJ.callV (Y' := Y_Reader_isOneSort) (o_Reader_sortOfResult 107 rfl) m_Reader_246 y_Reader_isOneSort im_Reader_isOneSort se_Reader_isOneSort rfl rfl (s_Reader_isOneSort h) rfl rfl (Nat.le_of_ble_eq_true rfl) (fun _ hx => by cases hx) (fun v u q => ?_) (fun n u q => q)
      obtain ⟨r, rfl, h⟩ := xqi_get q
      refine xJ.if_eq (tgt := 356) (o_Reader_sortOfResult 108 rfl) (by decide) (fun z => ?_) (fun z => ?_)
      · replace h := h.1 z
        refine xJ.iconst (v := (-1)) (o_Reader_sortOfResult 111 rfl) (by decide) ?_
        exact xJ.ireturn (o_Reader_sortOfResult 112 rfl) rfl h
      · replace h := h.2 z
        refine xJ.iload_n (o_Reader_sortOfResult 109 rfl) rfl ?_
        refine xJ.goto (tgt := 357) (o_Reader_sortOfResult 110 rfl) (by decide) ?_
        exact xJ.ireturn (o_Reader_sortOfResult 112 rfl) rfl h
theorem sc_Reader_fitsMany_1 {x : Int32} {P : Nat → Prop} (k0 : x = 10 ∨ x = 11 ∨ x = 12 ∨ x = 13 ∨ x = 21 ∨ x = 22 → P 164) (k1 : x = 14 ∨ x = 15 ∨ x = 16 ∨ x = 17 ∨ x = 19 ∨ x = 20 ∨ x = 23 ∨ x = 24 ∨ x = 25 ∨ x = 26 ∨ x = 27 ∨ x = 44 → P 186) (k2 : x = 18 ∨ x = 46 → P 175) (kd : ¬ x = 10 ∧ ¬ x = 11 ∧ ¬ x = 12 ∧ ¬ x = 13 ∧ ¬ x = 14 ∧ ¬ x = 15 ∧ ¬ x = 16 ∧ ¬ x = 17 ∧ ¬ x = 18 ∧ ¬ x = 19 ∧ ¬ x = 20 ∧ ¬ x = 21 ∧ ¬ x = 22 ∧ ¬ x = 23 ∧ ¬ x = 24 ∧ ¬ x = 25 ∧ ¬ x = 26 ∧ ¬ x = 27 ∧ ¬ x = 44 ∧ ¬ x = 46 → P 197) : ∃ t : Nat, xdst 1 196 10 46 #[163, 163, 163, 163, 185, 185, 185, 185, 174, 185, 185, 163, 163, 185, 185, 185, 185, 185, 196, 196, 196, 196, 196, 196, 196, 196, 196, 196, 196, 196, 196, 196, 196, 196, 185, 196, 174] x = (t : Int) ∧ P t := by
  by_cases h0_0 : x = 10
  · subst h0_0; exact ⟨164, by decide, k0 (Or.inl rfl)⟩
  by_cases h0_1 : x = 11
  · subst h0_1; exact ⟨164, by decide, k0 (Or.inr (Or.inl rfl))⟩
  by_cases h0_2 : x = 12
  · subst h0_2; exact ⟨164, by decide, k0 (Or.inr (Or.inr (Or.inl rfl)))⟩
  by_cases h0_3 : x = 13
  · subst h0_3; exact ⟨164, by decide, k0 (Or.inr (Or.inr (Or.inr (Or.inl rfl))))⟩
  by_cases h0_4 : x = 21
  · subst h0_4; exact ⟨164, by decide, k0 (Or.inr (Or.inr (Or.inr (Or.inr (Or.inl rfl)))))⟩
  by_cases h0_5 : x = 22
  · subst h0_5; exact ⟨164, by decide, k0 (Or.inr (Or.inr (Or.inr (Or.inr (Or.inr (rfl))))))⟩
  by_cases h1_0 : x = 14
  · subst h1_0; exact ⟨186, by decide, k1 (Or.inl rfl)⟩
  by_cases h1_1 : x = 15
  · subst h1_1; exact ⟨186, by decide, k1 (Or.inr (Or.inl rfl))⟩
  by_cases h1_2 : x = 16
  · subst h1_2; exact ⟨186, by decide, k1 (Or.inr (Or.inr (Or.inl rfl)))⟩
  by_cases h1_3 : x = 17
  · subst h1_3; exact ⟨186, by decide, k1 (Or.inr (Or.inr (Or.inr (Or.inl rfl))))⟩
  by_cases h1_4 : x = 19
  · subst h1_4; exact ⟨186, by decide, k1 (Or.inr (Or.inr (Or.inr (Or.inr (Or.inl rfl)))))⟩
  by_cases h1_5 : x = 20
  · subst h1_5; exact ⟨186, by decide, k1 (Or.inr (Or.inr (Or.inr (Or.inr (Or.inr (Or.inl rfl))))))⟩
  by_cases h1_6 : x = 23
  · subst h1_6; exact ⟨186, by decide, k1 (Or.inr (Or.inr (Or.inr (Or.inr (Or.inr (Or.inr (Or.inl rfl)))))))⟩
  by_cases h1_7 : x = 24
  · subst h1_7; exact ⟨186, by decide, k1 (Or.inr (Or.inr (Or.inr (Or.inr (Or.inr (Or.inr (Or.inr (Or.inl rfl))))))))⟩
  by_cases h1_8 : x = 25
  · subst h1_8; exact ⟨186, by decide, k1 (Or.inr (Or.inr (Or.inr (Or.inr (Or.inr (Or.inr (Or.inr (Or.inr (Or.inl rfl)))))))))⟩
  by_cases h1_9 : x = 26
  · subst h1_9; exact ⟨186, by decide, k1 (Or.inr (Or.inr (Or.inr (Or.inr (Or.inr (Or.inr (Or.inr (Or.inr (Or.inr (Or.inl rfl))))))))))⟩
  by_cases h1_10 : x = 27
  · subst h1_10; exact ⟨186, by decide, k1 (Or.inr (Or.inr (Or.inr (Or.inr (Or.inr (Or.inr (Or.inr (Or.inr (Or.inr (Or.inr (Or.inl rfl)))))))))))⟩
  by_cases h1_11 : x = 44
  · subst h1_11; exact ⟨186, by decide, k1 (Or.inr (Or.inr (Or.inr (Or.inr (Or.inr (Or.inr (Or.inr (Or.inr (Or.inr (Or.inr (Or.inr (rfl))))))))))))⟩
  by_cases h2_0 : x = 18
  · subst h2_0; exact ⟨175, by decide, k2 (Or.inl rfl)⟩
  by_cases h2_1 : x = 46
  · subst h2_1; exact ⟨175, by decide, k2 (Or.inr (rfl))⟩
  have nh0_0 := lv_neT h0_0 (show (10 : Int32).toInt = 10 by decide)
  have nh0_1 := lv_neT h0_1 (show (11 : Int32).toInt = 11 by decide)
  have nh0_2 := lv_neT h0_2 (show (12 : Int32).toInt = 12 by decide)
  have nh0_3 := lv_neT h0_3 (show (13 : Int32).toInt = 13 by decide)
  have nh0_4 := lv_neT h0_4 (show (21 : Int32).toInt = 21 by decide)
  have nh0_5 := lv_neT h0_5 (show (22 : Int32).toInt = 22 by decide)
  have nh1_0 := lv_neT h1_0 (show (14 : Int32).toInt = 14 by decide)
  have nh1_1 := lv_neT h1_1 (show (15 : Int32).toInt = 15 by decide)
  have nh1_2 := lv_neT h1_2 (show (16 : Int32).toInt = 16 by decide)
  have nh1_3 := lv_neT h1_3 (show (17 : Int32).toInt = 17 by decide)
  have nh1_4 := lv_neT h1_4 (show (19 : Int32).toInt = 19 by decide)
  have nh1_5 := lv_neT h1_5 (show (20 : Int32).toInt = 20 by decide)
  have nh1_6 := lv_neT h1_6 (show (23 : Int32).toInt = 23 by decide)
  have nh1_7 := lv_neT h1_7 (show (24 : Int32).toInt = 24 by decide)
  have nh1_8 := lv_neT h1_8 (show (25 : Int32).toInt = 25 by decide)
  have nh1_9 := lv_neT h1_9 (show (26 : Int32).toInt = 26 by decide)
  have nh1_10 := lv_neT h1_10 (show (27 : Int32).toInt = 27 by decide)
  have nh1_11 := lv_neT h1_11 (show (44 : Int32).toInt = 44 by decide)
  have nh2_0 := lv_neT h2_0 (show (18 : Int32).toInt = 18 by decide)
  have nh2_1 := lv_neT h2_1 (show (46 : Int32).toInt = 46 by decide)
  refine ⟨197, ?_, kd ⟨h0_0, h0_1, h0_2, h0_3, h1_0, h1_1, h1_2, h1_3, h2_0, h1_4, h1_5, h0_4, h0_5, h1_6, h1_7, h1_8, h1_9, h1_10, h1_11, h2_1⟩⟩
  by_cases d18 : x = 28
  · subst d18; decide
  by_cases d19 : x = 29
  · subst d19; decide
  by_cases d20 : x = 30
  · subst d20; decide
  by_cases d21 : x = 31
  · subst d21; decide
  by_cases d22 : x = 32
  · subst d22; decide
  by_cases d23 : x = 33
  · subst d23; decide
  by_cases d24 : x = 34
  · subst d24; decide
  by_cases d25 : x = 35
  · subst d25; decide
  by_cases d26 : x = 36
  · subst d26; decide
  by_cases d27 : x = 37
  · subst d27; decide
  by_cases d28 : x = 38
  · subst d28; decide
  by_cases d29 : x = 39
  · subst d29; decide
  by_cases d30 : x = 40
  · subst d30; decide
  by_cases d31 : x = 41
  · subst d31; decide
  by_cases d32 : x = 42
  · subst d32; decide
  by_cases d33 : x = 43
  · subst d33; decide
  by_cases d35 : x = 45
  · subst d35; decide
  have nd18 := lv_neT d18 (show (28 : Int32).toInt = 28 by decide)
  have nd19 := lv_neT d19 (show (29 : Int32).toInt = 29 by decide)
  have nd20 := lv_neT d20 (show (30 : Int32).toInt = 30 by decide)
  have nd21 := lv_neT d21 (show (31 : Int32).toInt = 31 by decide)
  have nd22 := lv_neT d22 (show (32 : Int32).toInt = 32 by decide)
  have nd23 := lv_neT d23 (show (33 : Int32).toInt = 33 by decide)
  have nd24 := lv_neT d24 (show (34 : Int32).toInt = 34 by decide)
  have nd25 := lv_neT d25 (show (35 : Int32).toInt = 35 by decide)
  have nd26 := lv_neT d26 (show (36 : Int32).toInt = 36 by decide)
  have nd27 := lv_neT d27 (show (37 : Int32).toInt = 37 by decide)
  have nd28 := lv_neT d28 (show (38 : Int32).toInt = 38 by decide)
  have nd29 := lv_neT d29 (show (39 : Int32).toInt = 39 by decide)
  have nd30 := lv_neT d30 (show (40 : Int32).toInt = 40 by decide)
  have nd31 := lv_neT d31 (show (41 : Int32).toInt = 41 by decide)
  have nd32 := lv_neT d32 (show (42 : Int32).toInt = 42 by decide)
  have nd33 := lv_neT d33 (show (43 : Int32).toInt = 43 by decide)
  have nd35 := lv_neT d35 (show (45 : Int32).toInt = 45 by decide)
  exact xdst_out (by omega) rfl
def wp_Reader_fitsMany (Q : xO → xS → Prop) (σ : xS) (a0 : Int32) (a1 : Int32) : Prop :=
  ((a0 = 10 ∨ a0 = 11 ∨ a0 = 12 ∨ a0 = 13 ∨ a0 = 21 ∨ a0 = 22 → ((¬ a1 = 1 → Q (.inl (some (.int 0))) σ) ∧ (a1 = 1 → Q (.inl (some (.int 1))) σ))) ∧ (a0 = 14 ∨ a0 = 15 ∨ a0 = 16 ∨ a0 = 17 ∨ a0 = 19 ∨ a0 = 20 ∨ a0 = 23 ∨ a0 = 24 ∨ a0 = 25 ∨ a0 = 26 ∨ a0 = 27 ∨ a0 = 44 → ((a1 < 2 → Q (.inl (some (.int 0))) σ) ∧ (¬ a1 < 2 → Q (.inl (some (.int 1))) σ))) ∧ (a0 = 18 ∨ a0 = 46 → ((¬ a1 = 3 → Q (.inl (some (.int 0))) σ) ∧ (a1 = 3 → Q (.inl (some (.int 1))) σ))) ∧ (¬ a0 = 10 ∧ ¬ a0 = 11 ∧ ¬ a0 = 12 ∧ ¬ a0 = 13 ∧ ¬ a0 = 14 ∧ ¬ a0 = 15 ∧ ¬ a0 = 16 ∧ ¬ a0 = 17 ∧ ¬ a0 = 18 ∧ ¬ a0 = 19 ∧ ¬ a0 = 20 ∧ ¬ a0 = 21 ∧ ¬ a0 = 22 ∧ ¬ a0 = 23 ∧ ¬ a0 = 24 ∧ ¬ a0 = 25 ∧ ¬ a0 = 26 ∧ ¬ a0 = 27 ∧ ¬ a0 = 44 ∧ ¬ a0 = 46 → ((¬ a1 = 2 → Q (.inl (some (.int 0))) σ) ∧ (a1 = 2 → Q (.inl (some (.int 1))) σ))))
set_option maxRecDepth 20000 in
theorem s_Reader_fitsMany {γ : xG1} {d : Nat} {Q : xO → xS → Prop} {σ : xS} {a0 : Int32} {a1 : Int32} (h : wp_Reader_fitsMany Q σ a0 a1) : xM (SHP, γ) Y_Reader_fitsMany (d + 0) [.int a0, .int a1] σ Q := by
  refine xM.of (by decide) (Nat.le_of_ble_eq_true rfl) ?_
  refine xJ.iload_n (o_Reader_fitsMany 0 rfl) rfl ?_
  refine xJ.tsw (o_Reader_fitsMany 1 rfl) (by decide) (sc_Reader_fitsMany_1 (fun z => ?_) (fun z => ?_) (fun z => ?_) (fun z => ?_))
  · replace h := h.1 z
    refine xJ.iload_n (o_Reader_fitsMany 2 rfl) rfl ?_
    refine xJ.iconst (v := 1) (o_Reader_fitsMany 3 rfl) (by decide) ?_
    refine xJ.icmp_ne (tgt := 173) (o_Reader_fitsMany 4 rfl) (by decide) (fun z => ?_) (fun z => ?_)
    · replace h := h.1 z
      refine xJ.iconst (v := 0) (o_Reader_fitsMany 7 rfl) (by decide) ?_
      exact xJ.zreturn (o_Reader_fitsMany 8 rfl) rfl (Or.inl rfl) h
    · replace h := h.2 z
      refine xJ.iconst (v := 1) (o_Reader_fitsMany 5 rfl) (by decide) ?_
      refine xJ.goto (tgt := 174) (o_Reader_fitsMany 6 rfl) (by decide) ?_
      exact xJ.zreturn (o_Reader_fitsMany 8 rfl) rfl (Or.inr rfl) h
  · replace h := h.2.1 z
    refine xJ.iload_n (o_Reader_fitsMany 16 rfl) rfl ?_
    refine xJ.iconst (v := 2) (o_Reader_fitsMany 17 rfl) (by decide) ?_
    refine xJ.icmp_lt (tgt := 195) (o_Reader_fitsMany 18 rfl) (by decide) (fun z => ?_) (fun z => ?_)
    · replace h := h.1 z
      refine xJ.iconst (v := 0) (o_Reader_fitsMany 21 rfl) (by decide) ?_
      exact xJ.zreturn (o_Reader_fitsMany 22 rfl) rfl (Or.inl rfl) h
    · replace h := h.2 z
      refine xJ.iconst (v := 1) (o_Reader_fitsMany 19 rfl) (by decide) ?_
      refine xJ.goto (tgt := 196) (o_Reader_fitsMany 20 rfl) (by decide) ?_
      exact xJ.zreturn (o_Reader_fitsMany 22 rfl) rfl (Or.inr rfl) h
  · replace h := h.2.2.1 z
    refine xJ.iload_n (o_Reader_fitsMany 9 rfl) rfl ?_
    refine xJ.iconst (v := 3) (o_Reader_fitsMany 10 rfl) (by decide) ?_
    refine xJ.icmp_ne (tgt := 184) (o_Reader_fitsMany 11 rfl) (by decide) (fun z => ?_) (fun z => ?_)
    · replace h := h.1 z
      refine xJ.iconst (v := 0) (o_Reader_fitsMany 14 rfl) (by decide) ?_
      exact xJ.zreturn (o_Reader_fitsMany 15 rfl) rfl (Or.inl rfl) h
    · replace h := h.2 z
      refine xJ.iconst (v := 1) (o_Reader_fitsMany 12 rfl) (by decide) ?_
      refine xJ.goto (tgt := 185) (o_Reader_fitsMany 13 rfl) (by decide) ?_
      exact xJ.zreturn (o_Reader_fitsMany 15 rfl) rfl (Or.inr rfl) h
  · replace h := h.2.2.2 z
    refine xJ.iload_n (o_Reader_fitsMany 23 rfl) rfl ?_
    refine xJ.iconst (v := 2) (o_Reader_fitsMany 24 rfl) (by decide) ?_
    refine xJ.icmp_ne (tgt := 206) (o_Reader_fitsMany 25 rfl) (by decide) (fun z => ?_) (fun z => ?_)
    · replace h := h.1 z
      refine xJ.iconst (v := 0) (o_Reader_fitsMany 28 rfl) (by decide) ?_
      exact xJ.zreturn (o_Reader_fitsMany 29 rfl) rfl (Or.inl rfl) h
    · replace h := h.2 z
      refine xJ.iconst (v := 1) (o_Reader_fitsMany 26 rfl) (by decide) ?_
      refine xJ.goto (tgt := 207) (o_Reader_fitsMany 27 rfl) (by decide) ?_
      exact xJ.zreturn (o_Reader_fitsMany 29 rfl) rfl (Or.inr rfl) h
def w_Reader_readArguments_49 (T : (xO → xS → Prop) → xS → Prop) (Q : xO → xS → Prop) (a1 : Int32) (σ : xS) : Prop :=
  wp_Text_fail (xqi (fun r6 u5 => Q (.inl none) u5) (fun n u => Q (.inr n) u)) σ 11 a1
def w_Reader_readArguments_9 (T : (xO → xS → Prop) → xS → Prop) (Q : xO → xS → Prop) : Nat → Int32 → Int32 → xS → Prop
  | 0 => fun _ _ _ => False
  | n + 1 => fun a1 a2 σ =>
    ((40 < a2 → Q (.inl none) σ) ∧ (¬ 40 < a2 → (((xi σ 1 9) = 1 → Q (.inl none) σ) ∧ (¬ (xi σ 1 9) = 1 → T (xqi (fun r4 u3 => ((a2 = 40 → w_Reader_readArguments_49 T Q a1 u3) ∧ (¬ a2 = 40 → (((xi u3 24 4) < (Int32.ofNat 2400) → (vp_in (xi u3 24 4) 2400 ∧ (∀ s7 : xS, s7 = xpi u3 25 (xi u3 24 4).toNatClampNeg r4 → (∀ s8 : xS, s8 = xpi s7 24 4 ((xi s7 24 4) + 1) → wp_Text_next (xqv (fun u9 => (∀ x11 : Int32, x11 = a2 + 1 → w_Reader_readArguments_9 T Q n a1 x11 u9)) (fun n u => Q (.inr n) u)) s8 )))) ∧ (¬ (xi u3 24 4) < (Int32.ofNat 2400) → w_Reader_readArguments_49 T Q a1 u3))))) (fun n u => Q (.inr n) u)) σ ))))
def wp_Reader_readArguments (T : (xO → xS → Prop) → xS → Prop) (Q : xO → xS → Prop) (σ : xS) (a1 : Int32) : Prop :=
  wp_Text_next (xqv (fun u1 => ∃ m, w_Reader_readArguments_9 T Q m a1 0 u1) (fun n u => Q (.inr n) u)) σ 
set_option maxRecDepth 20000 in
theorem sw_Reader_readArguments_49 {γ : xG1} {d b0 : Nat} {T : (xO → xS → Prop) → xS → Prop} (hT : ∀ Q σ, T Q σ → ∀ e, d + 20 ≤ e → xM (SHP, γ) Y_Reader_term e [.ref 24] σ Q) {Q : xO → xS → Prop} {a1 : Int32} {σ : xS} (h : w_Reader_readArguments_49 T Q a1 σ) : xJ (SHP, γ) Y_Reader_readArguments (d + 21) b0 49 [(0, .ref 24), (1, .int a1)] [] σ Q := by
  refine xJ.aload_n (o_Reader_readArguments 25 rfl) rfl ?_
  refine xJ.getfield (o_Reader_readArguments 26 rfl) f_Reader_28 rfl rfl ?_
  refine xJ.bipush (v := 11) (o_Reader_readArguments 27 rfl) (by decide) ?_
  refine xJ.iload_n (o_Reader_readArguments 28 rfl) rfl ?_
  refine xJ.callV (Y' := Y_Text_fail) (o_Reader_readArguments 29 rfl) m_Reader_136 y_Text_fail im_Text_fail se_Text_fail rfl rfl (s_Text_fail h) rfl rfl (Nat.le_of_ble_eq_true rfl) (fun _ hx => by cases hx) (fun v u q => ?_) (fun n u q => q)
  obtain ⟨r, rfl, h⟩ := xqi_get q
  refine xJ.pop (o_Reader_readArguments 30 rfl) rfl ?_
  exact xJ.return_ (o_Reader_readArguments 31 rfl) rfl h
set_option maxRecDepth 20000 in
theorem sw_Reader_readArguments_9 {γ : xG1} {d b0 : Nat} {T : (xO → xS → Prop) → xS → Prop} (hT : ∀ Q σ, T Q σ → ∀ e, d + 20 ≤ e → xM (SHP, γ) Y_Reader_term e [.ref 24] σ Q) {Q : xO → xS → Prop} : ∀ (n : Nat) (a1 : Int32) (a2 : Int32) (σ : xS), w_Reader_readArguments_9 T Q n a1 a2 σ → xJ (SHP, γ) Y_Reader_readArguments (d + 21) b0 9 [(0, .ref 24), (1, .int a1), (2, .int a2)] [] σ Q := by
  intro n
  induction n with
  | zero => intro a1 a2 σ h; exact h.elim
  | succ n ih =>
    intro a1 a2 σ h
    refine xJ.iload_n (o_Reader_readArguments 5 rfl) rfl ?_
    refine xJ.bipush (v := 40) (o_Reader_readArguments 6 rfl) (by decide) ?_
    refine xJ.icmp_gt (tgt := 94) (o_Reader_readArguments 7 rfl) (by decide) (fun z => ?_) (fun z => ?_)
    · replace h := h.1 z
      exact xJ.return_ (o_Reader_readArguments 49 rfl) rfl h
    · replace h := h.2 z
      refine xJ.aload_n (o_Reader_readArguments 8 rfl) rfl ?_
      refine xJ.getfield (o_Reader_readArguments 9 rfl) f_Reader_28 rfl rfl ?_
      refine xJ.getfield (o_Reader_readArguments 10 rfl) f_Reader_97 rfl rfl ?_
      refine xJ.iconst (v := 1) (o_Reader_readArguments 11 rfl) (by decide) ?_
      refine xJ.icmp_eq (tgt := 94) (o_Reader_readArguments 12 rfl) (by decide) (fun z => ?_) (fun z => ?_)
      · replace h := h.1 z
        exact xJ.return_ (o_Reader_readArguments 49 rfl) rfl h
      · replace h := h.2 z
        refine xJ.aload_n (o_Reader_readArguments 13 rfl) rfl ?_
        refine xJ.callV (Y' := Y_Reader_term) (o_Reader_readArguments 14 rfl) m_Reader_129 y_Reader_term im_Reader_term se_Reader_term rfl rfl (hT _ _ h _ (by omega)) rfl rfl (Nat.le_of_ble_eq_true rfl) (fun _ hx => by cases hx) (fun v u q => ?_) (fun n u q => q)
        obtain ⟨r, rfl, h⟩ := xqi_get q
        refine xJ.istore_n (o_Reader_readArguments 15 rfl) (by decide) ?_
        refine xJ.iload_n (o_Reader_readArguments 16 rfl) rfl ?_
        refine xJ.bipush (v := 40) (o_Reader_readArguments 17 rfl) (by decide) ?_
        refine xJ.icmp_eq (tgt := 49) (o_Reader_readArguments 18 rfl) (by decide) (fun z => ?_) (fun z => ?_)
        · replace h := h.1 z
          exact xJ.lvs (by exact ⟨rfl, rfl, trivial⟩) (sw_Reader_readArguments_49 hT h)
        · replace h := h.2 z
          refine xJ.aload_n (o_Reader_readArguments 19 rfl) rfl ?_
          refine xJ.getfield (o_Reader_readArguments 20 rfl) f_Reader_51 rfl rfl ?_
          refine xJ.aload_n (o_Reader_readArguments 21 rfl) rfl ?_
          refine xJ.getfield (o_Reader_readArguments 22 rfl) f_Reader_9 rfl rfl ?_
          refine xJ.alen (o_Reader_readArguments 23 rfl) rfl ?_
          refine xJ.icmp_lt (tgt := 61) (o_Reader_readArguments 24 rfl) (by decide) (fun z => ?_) (fun z => ?_)
          · replace h := h.1 z
            refine xJ.aload_n (o_Reader_readArguments 32 rfl) rfl ?_
            refine xJ.getfield (o_Reader_readArguments 33 rfl) f_Reader_9 rfl rfl ?_
            refine xJ.aload_n (o_Reader_readArguments 34 rfl) rfl ?_
            refine xJ.getfield (o_Reader_readArguments 35 rfl) f_Reader_51 rfl rfl ?_
            refine xJ.iload_n (o_Reader_readArguments 36 rfl) rfl ?_
            refine xJ.iastore (o_Reader_readArguments 37 rfl) rfl h.1 ?_
            replace h := h.2
            replace h := h _ rfl
            refine xJ.aload_n (o_Reader_readArguments 38 rfl) rfl ?_
            refine xJ.dup (o_Reader_readArguments 39 rfl) rfl ?_
            refine xJ.getfield (o_Reader_readArguments 40 rfl) f_Reader_51 rfl rfl ?_
            refine xJ.iconst (v := 1) (o_Reader_readArguments 41 rfl) (by decide) ?_
            refine xJ.iadd (o_Reader_readArguments 42 rfl) ?_
            refine xJ.putI (o_Reader_readArguments 43 rfl) f_Reader_51 rfl rfl rfl ?_
            replace h := h _ rfl
            refine xJ.aload_n (o_Reader_readArguments 44 rfl) rfl ?_
            refine xJ.getfield (o_Reader_readArguments 45 rfl) f_Reader_28 rfl rfl ?_
            refine xJ.callV (Y' := Y_Text_next) (o_Reader_readArguments 46 rfl) m_Reader_79 y_Text_next im_Text_next se_Text_next rfl rfl (s_Text_next h) rfl rfl (Nat.le_of_ble_eq_true rfl) (fun _ hx => by cases hx) (fun v u q => ?_) (fun n u q => q)
            obtain ⟨rfl, h⟩ := xqv_get q
            refine xJ.iincC (w := 1) (o_Reader_readArguments 47 rfl) rfl (by decide) (by decide) ?_
            replace h := h _ rfl
            refine xJ.goto (tgt := 9) (o_Reader_readArguments 48 rfl) (by decide) ?_
            exact xJ.lvs (by exact ⟨rfl, rfl, rfl, trivial⟩) (ih _ _ _ h)
          · replace h := h.2 z
            exact xJ.lvs (by exact ⟨rfl, rfl, trivial⟩) (sw_Reader_readArguments_49 hT h)
set_option maxRecDepth 20000 in
theorem s_Reader_readArguments {γ : xG1} {d : Nat} {T : (xO → xS → Prop) → xS → Prop} (hT : ∀ Q σ, T Q σ → ∀ e, d + 20 ≤ e → xM (SHP, γ) Y_Reader_term e [.ref 24] σ Q) {Q : xO → xS → Prop} {σ : xS} {a1 : Int32} (h : wp_Reader_readArguments T Q σ a1) : xM (SHP, γ) Y_Reader_readArguments (d + 21) [.ref 24, .int a1] σ Q := by
  refine xM.of (by decide) (Nat.le_of_ble_eq_true rfl) ?_
  refine xJ.aload_n (o_Reader_readArguments 0 rfl) rfl ?_
  refine xJ.getfield (o_Reader_readArguments 1 rfl) f_Reader_28 rfl rfl ?_
  refine xJ.callV (Y' := Y_Text_next) (o_Reader_readArguments 2 rfl) m_Reader_79 y_Text_next im_Text_next se_Text_next rfl rfl (s_Text_next h) rfl rfl (Nat.le_of_ble_eq_true rfl) (fun _ hx => by cases hx) (fun v u q => ?_) (fun n u q => q)
  obtain ⟨rfl, h⟩ := xqv_get q
  refine xJ.iconst (v := 0) (o_Reader_readArguments 3 rfl) (by decide) ?_
  refine xJ.istore_n (o_Reader_readArguments 4 rfl) (by decide) ?_
  obtain ⟨m, h⟩ := h
  exact xJ.lvs (by exact ⟨rfl, rfl, rfl, trivial⟩) (sw_Reader_readArguments_9 hT m _ _ _ h)
def wp_Reader_plainOperator (Q : xO → xS → Prop) (σ : xS)  : Prop :=
  ((13 ≤ (xi σ 1 12) → Q (.inl (some (.int (xi σ 1 12)))) σ) ∧ (¬ 13 ≤ (xi σ 1 12) → wp_Text_failHere (xqi (fun r2 u1 => Q (.inl (some (.int r2))) u1) (fun n u => Q (.inr n) u)) σ ))
set_option maxRecDepth 20000 in
theorem s_Reader_plainOperator {γ : xG1} {d : Nat} {Q : xO → xS → Prop} {σ : xS}  (h : wp_Reader_plainOperator Q σ ) : xM (SHP, γ) Y_Reader_plainOperator (d + 10) [.ref 24] σ Q := by
  refine xM.of (by decide) (Nat.le_of_ble_eq_true rfl) ?_
  refine xJ.aload_n (o_Reader_plainOperator 0 rfl) rfl ?_
  refine xJ.getfield (o_Reader_plainOperator 1 rfl) f_Reader_28 rfl rfl ?_
  refine xJ.getfield (o_Reader_plainOperator 2 rfl) f_Reader_82 rfl rfl ?_
  refine xJ.bipush (v := 13) (o_Reader_plainOperator 3 rfl) (by decide) ?_
  refine xJ.icmp_ge (tgt := 22) (o_Reader_plainOperator 4 rfl) (by decide) (fun z => ?_) (fun z => ?_)
  · replace h := h.1 z
    refine xJ.aload_n (o_Reader_plainOperator 9 rfl) rfl ?_
    refine xJ.getfield (o_Reader_plainOperator 10 rfl) f_Reader_28 rfl rfl ?_
    refine xJ.getfield (o_Reader_plainOperator 11 rfl) f_Reader_82 rfl rfl ?_
    exact xJ.ireturn (o_Reader_plainOperator 12 rfl) rfl h
  · replace h := h.2 z
    refine xJ.aload_n (o_Reader_plainOperator 5 rfl) rfl ?_
    refine xJ.getfield (o_Reader_plainOperator 6 rfl) f_Reader_28 rfl rfl ?_
    refine xJ.callV (Y' := Y_Text_failHere) (o_Reader_plainOperator 7 rfl) m_Reader_94 y_Text_failHere im_Text_failHere se_Text_failHere rfl rfl (s_Text_failHere h) rfl rfl (Nat.le_of_ble_eq_true rfl) (fun _ hx => by cases hx) (fun v u q => ?_) (fun n u q => q)
    obtain ⟨r, rfl, h⟩ := xqi_get q
    refine xJ.goto (tgt := 29) (o_Reader_plainOperator 8 rfl) (by decide) ?_
    exact xJ.ireturn (o_Reader_plainOperator 12 rfl) rfl h
def w_Reader_indexedOperator_32 (Q : xO → xS → Prop) (σ : xS) : Prop :=
  wp_Text_failHere (xqi (fun r7 u6 => Q (.inl (some (.int r7))) u6) (fun n u => Q (.inr n) u)) σ 
def w_Reader_indexedOperator_63 (Q : xO → xS → Prop) (a1 : Int32) (t1 : Int32) (σ : xS) : Prop :=
  (∀ s11 : xS, s11 = xpi σ 24 11 t1 → (((xi s11 24 11) ≤ (xi s11 24 10) → wp_Reader_expect (xqv (fun u12 => Q (.inl (some (.int a1))) u12) (fun n u => Q (.inr n) u)) s11 1) ∧ (¬ (xi s11 24 11) ≤ (xi s11 24 10) → wp_Text_fail (xqi (fun r15 u14 => Q (.inl (some (.int r15))) u14) (fun n u => Q (.inr n) u)) s11 7 (xi s11 1 10))))
def wp_Reader_indexedOperator (Q : xO → xS → Prop) (σ : xS)  : Prop :=
  wp_Reader_expectReserved (xqv (fun u1 => wp_Text_next (xqv (fun u3 => (∀ x5 : Int32, x5 = (xi u3 1 12) → ((x5 < 10 → w_Reader_indexedOperator_32 Q  u3) ∧ (¬ x5 < 10 → ((x5 ≤ 12 → wp_Reader_numeral (xqi (fun r9 u8 => (∀ s10 : xS, s10 = xpi u8 24 10 r9 → ((¬ x5 = 10 → w_Reader_indexedOperator_63 Q x5 0 s10) ∧ (x5 = 10 → wp_Reader_numeral (xqi (fun r17 u16 => w_Reader_indexedOperator_63 Q x5 r17 u16) (fun n u => Q (.inr n) u)) s10 )))) (fun n u => Q (.inr n) u)) u3 ) ∧ (¬ x5 ≤ 12 → w_Reader_indexedOperator_32 Q  u3)))))) (fun n u => Q (.inr n) u)) u1 ) (fun n u => Q (.inr n) u)) σ 4
set_option maxRecDepth 20000 in
theorem sw_Reader_indexedOperator_32 {γ : xG1} {d b0 : Nat} {Q : xO → xS → Prop} {σ : xS} (h : w_Reader_indexedOperator_32 Q  σ) : xJ (SHP, γ) Y_Reader_indexedOperator (d + 11) b0 32 [(0, .ref 24)] [] σ Q := by
  refine xJ.aload_n (o_Reader_indexedOperator 16 rfl) rfl ?_
  refine xJ.getfield (o_Reader_indexedOperator 17 rfl) f_Reader_28 rfl rfl ?_
  refine xJ.callV (Y' := Y_Text_failHere) (o_Reader_indexedOperator 18 rfl) m_Reader_94 y_Text_failHere im_Text_failHere se_Text_failHere rfl rfl (s_Text_failHere h) rfl rfl (Nat.le_of_ble_eq_true rfl) (fun _ hx => by cases hx) (fun v u q => ?_) (fun n u q => q)
  obtain ⟨r, rfl, h⟩ := xqi_get q
  exact xJ.ireturn (o_Reader_indexedOperator 19 rfl) rfl h
set_option maxRecDepth 20000 in
theorem sw_Reader_indexedOperator_63 {γ : xG1} {d b0 : Nat} {Q : xO → xS → Prop} {a1 : Int32} {t1 : Int32} {σ : xS} (h : w_Reader_indexedOperator_63 Q a1 t1 σ) : xJ (SHP, γ) Y_Reader_indexedOperator (d + 11) b0 63 [(0, .ref 24), (1, .int a1)] [.int t1, .ref 24] σ Q := by
  refine xJ.putI (o_Reader_indexedOperator 32 rfl) f_Reader_204 rfl rfl rfl ?_
  replace h := h _ rfl
  refine xJ.aload_n (o_Reader_indexedOperator 33 rfl) rfl ?_
  refine xJ.getfield (o_Reader_indexedOperator 34 rfl) f_Reader_204 rfl rfl ?_
  refine xJ.aload_n (o_Reader_indexedOperator 35 rfl) rfl ?_
  refine xJ.getfield (o_Reader_indexedOperator 36 rfl) f_Reader_201 rfl rfl ?_
  refine xJ.icmp_le (tgt := 94) (o_Reader_indexedOperator 37 rfl) (by decide) (fun z => ?_) (fun z => ?_)
  · replace h := h.1 z
    refine xJ.aload_n (o_Reader_indexedOperator 46 rfl) rfl ?_
    refine xJ.iconst (v := 1) (o_Reader_indexedOperator 47 rfl) (by decide) ?_
    refine xJ.callV (Y' := Y_Reader_expect) (o_Reader_indexedOperator 48 rfl) m_Reader_75 y_Reader_expect im_Reader_expect se_Reader_expect rfl rfl (s_Reader_expect h) rfl rfl (Nat.le_of_ble_eq_true rfl) (fun _ hx => by cases hx) (fun v u q => ?_) (fun n u q => q)
    obtain ⟨rfl, h⟩ := xqv_get q
    refine xJ.iload_n (o_Reader_indexedOperator 49 rfl) rfl ?_
    exact xJ.ireturn (o_Reader_indexedOperator 50 rfl) rfl h
  · replace h := h.2 z
    refine xJ.aload_n (o_Reader_indexedOperator 38 rfl) rfl ?_
    refine xJ.getfield (o_Reader_indexedOperator 39 rfl) f_Reader_28 rfl rfl ?_
    refine xJ.bipush (v := 7) (o_Reader_indexedOperator 40 rfl) (by decide) ?_
    refine xJ.aload_n (o_Reader_indexedOperator 41 rfl) rfl ?_
    refine xJ.getfield (o_Reader_indexedOperator 42 rfl) f_Reader_28 rfl rfl ?_
    refine xJ.getfield (o_Reader_indexedOperator 43 rfl) f_Reader_103 rfl rfl ?_
    refine xJ.callV (Y' := Y_Text_fail) (o_Reader_indexedOperator 44 rfl) m_Reader_136 y_Text_fail im_Text_fail se_Text_fail rfl rfl (s_Text_fail h) rfl rfl (Nat.le_of_ble_eq_true rfl) (fun _ hx => by cases hx) (fun v u q => ?_) (fun n u q => q)
    obtain ⟨r, rfl, h⟩ := xqi_get q
    exact xJ.ireturn (o_Reader_indexedOperator 45 rfl) rfl h
set_option maxRecDepth 20000 in
theorem s_Reader_indexedOperator {γ : xG1} {d : Nat} {Q : xO → xS → Prop} {σ : xS}  (h : wp_Reader_indexedOperator Q σ ) : xM (SHP, γ) Y_Reader_indexedOperator (d + 11) [.ref 24] σ Q := by
  refine xM.of (by decide) (Nat.le_of_ble_eq_true rfl) ?_
  refine xJ.aload_n (o_Reader_indexedOperator 0 rfl) rfl ?_
  refine xJ.iconst (v := 4) (o_Reader_indexedOperator 1 rfl) (by decide) ?_
  refine xJ.callV (Y' := Y_Reader_expectReserved) (o_Reader_indexedOperator 2 rfl) m_Reader_157 y_Reader_expectReserved im_Reader_expectReserved se_Reader_expectReserved rfl rfl (s_Reader_expectReserved h) rfl rfl (Nat.le_of_ble_eq_true rfl) (fun _ hx => by cases hx) (fun v u q => ?_) (fun n u q => q)
  obtain ⟨rfl, h⟩ := xqv_get q
  refine xJ.aload_n (o_Reader_indexedOperator 3 rfl) rfl ?_
  refine xJ.getfield (o_Reader_indexedOperator 4 rfl) f_Reader_28 rfl rfl ?_
  refine xJ.callV (Y' := Y_Text_next) (o_Reader_indexedOperator 5 rfl) m_Reader_79 y_Text_next im_Text_next se_Text_next rfl rfl (s_Text_next h) rfl rfl (Nat.le_of_ble_eq_true rfl) (fun _ hx => by cases hx) (fun v u q => ?_) (fun n u q => q)
  obtain ⟨rfl, h⟩ := xqv_get q
  refine xJ.aload_n (o_Reader_indexedOperator 6 rfl) rfl ?_
  refine xJ.getfield (o_Reader_indexedOperator 7 rfl) f_Reader_28 rfl rfl ?_
  refine xJ.getfield (o_Reader_indexedOperator 8 rfl) f_Reader_82 rfl rfl ?_
  refine xJ.istore_n (o_Reader_indexedOperator 9 rfl) (by decide) ?_
  replace h := h _ rfl
  refine xJ.iload_n (o_Reader_indexedOperator 10 rfl) rfl ?_
  refine xJ.bipush (v := 10) (o_Reader_indexedOperator 11 rfl) (by decide) ?_
  refine xJ.icmp_lt (tgt := 32) (o_Reader_indexedOperator 12 rfl) (by decide) (fun z => ?_) (fun z => ?_)
  · replace h := h.1 z
    exact xJ.lvs (by exact ⟨rfl, trivial⟩) (sw_Reader_indexedOperator_32 h)
  · replace h := h.2 z
    refine xJ.iload_n (o_Reader_indexedOperator 13 rfl) rfl ?_
    refine xJ.bipush (v := 12) (o_Reader_indexedOperator 14 rfl) (by decide) ?_
    refine xJ.icmp_le (tgt := 40) (o_Reader_indexedOperator 15 rfl) (by decide) (fun z => ?_) (fun z => ?_)
    · replace h := h.1 z
      refine xJ.aload_n (o_Reader_indexedOperator 20 rfl) rfl ?_
      refine xJ.aload_n (o_Reader_indexedOperator 21 rfl) rfl ?_
      refine xJ.callV (Y' := Y_Reader_numeral) (o_Reader_indexedOperator 22 rfl) m_Reader_163 y_Reader_numeral im_Reader_numeral se_Reader_numeral rfl rfl (s_Reader_numeral h) rfl rfl (Nat.le_of_ble_eq_true rfl) (fun _ hx => by cases hx) (fun v u q => ?_) (fun n u q => q)
      obtain ⟨r, rfl, h⟩ := xqi_get q
      refine xJ.putI (o_Reader_indexedOperator 23 rfl) f_Reader_201 rfl rfl rfl ?_
      replace h := h _ rfl
      refine xJ.aload_n (o_Reader_indexedOperator 24 rfl) rfl ?_
      refine xJ.iload_n (o_Reader_indexedOperator 25 rfl) rfl ?_
      refine xJ.bipush (v := 10) (o_Reader_indexedOperator 26 rfl) (by decide) ?_
      refine xJ.icmp_ne (tgt := 62) (o_Reader_indexedOperator 27 rfl) (by decide) (fun z => ?_) (fun z => ?_)
      · replace h := h.1 z
        refine xJ.iconst (v := 0) (o_Reader_indexedOperator 31 rfl) (by decide) ?_
        exact xJ.lvs (by exact ⟨rfl, rfl, trivial⟩) (sw_Reader_indexedOperator_63 h)
      · replace h := h.2 z
        refine xJ.aload_n (o_Reader_indexedOperator 28 rfl) rfl ?_
        refine xJ.callV (Y' := Y_Reader_numeral) (o_Reader_indexedOperator 29 rfl) m_Reader_163 y_Reader_numeral im_Reader_numeral se_Reader_numeral rfl rfl (s_Reader_numeral h) rfl rfl (Nat.le_of_ble_eq_true rfl) (fun _ hx => by cases hx) (fun v u q => ?_) (fun n u q => q)
        obtain ⟨r, rfl, h⟩ := xqi_get q
        refine xJ.goto (tgt := 63) (o_Reader_indexedOperator 30 rfl) (by decide) ?_
        exact xJ.lvs (by exact ⟨rfl, rfl, trivial⟩) (sw_Reader_indexedOperator_63 h)
    · replace h := h.2 z
      exact xJ.lvs (by exact ⟨rfl, trivial⟩) (sw_Reader_indexedOperator_32 h)
def w_Reader_isBoundSince_2 (Q : xO → xS → Prop) : Nat → Int32 → xS → Prop
  | 0 => fun _ _ => False
  | n + 1 => fun a2 σ =>
    (((xi σ 24 9) ≤ a2 → Q (.inl (some (.int 0))) σ) ∧ (¬ (xi σ 24 9) ≤ a2 → (vp_in a2 16 ∧ (vp_in a2 16 ∧ wp_Text_isSame (xqi (fun r2 u1 => ((r2 = 0 → (∀ x3 : Int32, x3 = a2 + 1 → w_Reader_isBoundSince_2 Q n x3 u1)) ∧ (¬ r2 = 0 → Q (.inl (some (.int 1))) u1))) (fun n u => Q (.inr n) u)) σ (xi σ 26 a2.toNatClampNeg) (xi σ 27 a2.toNatClampNeg)))))
def wp_Reader_isBoundSince (Q : xO → xS → Prop) (σ : xS) (a1 : Int32) : Prop :=
  ∃ m, w_Reader_isBoundSince_2 Q m a1 σ
set_option maxRecDepth 20000 in
theorem sw_Reader_isBoundSince_2 {γ : xG1} {d b0 : Nat} {Q : xO → xS → Prop} : ∀ (n : Nat) (a2 : Int32) (σ : xS), w_Reader_isBoundSince_2 Q n a2 σ → xJ (SHP, γ) Y_Reader_isBoundSince (d + 1) b0 2 [(0, .ref 24), (2, .int a2)] [] σ Q := by
  intro n
  induction n with
  | zero => intro a2 σ h; exact h.elim
  | succ n ih =>
    intro a2 σ h
    refine xJ.iload_n (o_Reader_isBoundSince 2 rfl) rfl ?_
    refine xJ.aload_n (o_Reader_isBoundSince 3 rfl) rfl ?_
    refine xJ.getfield (o_Reader_isBoundSince 4 rfl) f_Reader_55 rfl rfl ?_
    refine xJ.icmp_ge (tgt := 40) (o_Reader_isBoundSince 5 rfl) (by decide) (fun z => ?_) (fun z => ?_)
    · replace h := h.1 z
      refine xJ.iconst (v := 0) (o_Reader_isBoundSince 22 rfl) (by decide) ?_
      exact xJ.zreturn (o_Reader_isBoundSince 23 rfl) rfl (Or.inl rfl) h
    · replace h := h.2 z
      refine xJ.aload_n (o_Reader_isBoundSince 6 rfl) rfl ?_
      refine xJ.getfield (o_Reader_isBoundSince 7 rfl) f_Reader_28 rfl rfl ?_
      refine xJ.aload_n (o_Reader_isBoundSince 8 rfl) rfl ?_
      refine xJ.getfield (o_Reader_isBoundSince 9 rfl) f_Reader_15 rfl rfl ?_
      refine xJ.iload_n (o_Reader_isBoundSince 10 rfl) rfl ?_
      refine xJ.iaload (o_Reader_isBoundSince 11 rfl) rfl h.1 ?_
      replace h := h.2
      refine xJ.aload_n (o_Reader_isBoundSince 12 rfl) rfl ?_
      refine xJ.getfield (o_Reader_isBoundSince 13 rfl) f_Reader_18 rfl rfl ?_
      refine xJ.iload_n (o_Reader_isBoundSince 14 rfl) rfl ?_
      refine xJ.iaload (o_Reader_isBoundSince 15 rfl) rfl h.1 ?_
      replace h := h.2
      refine xJ.callV (Y' := Y_Text_isSame) (o_Reader_isBoundSince 16 rfl) m_Reader_185 y_Text_isSame im_Text_isSame se_Text_isSame rfl rfl (s_Text_isSame h) rfl rfl (Nat.le_of_ble_eq_true rfl) (fun _ hx => by cases hx) (fun v u q => ?_) (fun n u q => q)
      obtain ⟨r, rfl, h⟩ := xqi_get q
      refine xJ.if_eq (tgt := 34) (o_Reader_isBoundSince 17 rfl) (by decide) (fun z => ?_) (fun z => ?_)
      · replace h := h.1 z
        refine xJ.iincC (w := 1) (o_Reader_isBoundSince 20 rfl) rfl (by decide) (by decide) ?_
        replace h := h _ rfl
        refine xJ.goto (tgt := 2) (o_Reader_isBoundSince 21 rfl) (by decide) ?_
        exact xJ.lvs (by exact ⟨rfl, rfl, trivial⟩) (ih _ _ h)
      · replace h := h.2 z
        refine xJ.iconst (v := 1) (o_Reader_isBoundSince 18 rfl) (by decide) ?_
        exact xJ.zreturn (o_Reader_isBoundSince 19 rfl) rfl (Or.inr rfl) h
set_option maxRecDepth 20000 in
theorem s_Reader_isBoundSince {γ : xG1} {d : Nat} {Q : xO → xS → Prop} {σ : xS} {a1 : Int32} (h : wp_Reader_isBoundSince Q σ a1) : xM (SHP, γ) Y_Reader_isBoundSince (d + 1) [.ref 24, .int a1] σ Q := by
  refine xM.of (by decide) (Nat.le_of_ble_eq_true rfl) ?_
  refine xJ.iload_n (o_Reader_isBoundSince 0 rfl) rfl ?_
  refine xJ.istore_n (o_Reader_isBoundSince 1 rfl) (by decide) ?_
  obtain ⟨m, h⟩ := h
  exact xJ.lvs (by exact ⟨rfl, rfl, trivial⟩) (sw_Reader_isBoundSince_2 m _ _ h)
def w_Reader_bind_41 (T : (xO → xS → Prop) → xS → Prop) (Q : xO → xS → Prop) (σ : xS) : Prop :=
  (∀ x5 : Int32, x5 = (xi σ 24 9) → ((x5 < 16 → (vp_in x5 16 ∧ (∀ s6 : xS, s6 = xpi σ 26 x5.toNatClampNeg (xi σ 1 10) → (vp_in x5 16 ∧ (∀ s7 : xS, s7 = xpi s6 27 x5.toNatClampNeg (xi s6 1 11) → (vp_in x5 16 ∧ (∀ s8 : xS, s8 = xpi s7 29 x5.toNatClampNeg (vp_nar .boolean 0) → (∀ s9 : xS, s9 = xpi s8 24 9 ((xi s8 24 9) + 1) → wp_Text_next (xqv (fun u10 => T (xqi (fun r13 u12 => (vp_in x5 16 ∧ (∀ s14 : xS, s14 = xpi u12 28 x5.toNatClampNeg r13 → wp_Reader_expect (xqv (fun u15 => Q (.inl none) u15) (fun n u => Q (.inr n) u)) s14 1))) (fun n u => Q (.inr n) u)) u10 ) (fun n u => Q (.inr n) u)) s9 )))))))) ∧ (¬ x5 < 16 → wp_Text_fail (xqi (fun r18 u17 => Q (.inl none) u17) (fun n u => Q (.inr n) u)) σ 11 (xi σ 1 10))))
def w_Reader_bind_24 (T : (xO → xS → Prop) → xS → Prop) (Q : xO → xS → Prop) (σ : xS) : Prop :=
  wp_Text_fail (xqi (fun r4 u3 => w_Reader_bind_41 T Q  u3) (fun n u => Q (.inr n) u)) σ 6 (xi σ 1 10)
def wp_Reader_bind (T : (xO → xS → Prop) → xS → Prop) (Q : xO → xS → Prop) (σ : xS) (a1 : Int32) : Prop :=
  wp_Reader_expect (xqv (fun u1 => ((¬ (xi u1 1 12) = (-1) → w_Reader_bind_24 T Q  u1) ∧ ((xi u1 1 12) = (-1) → wp_Reader_isBoundSince (xqi (fun r20 u19 => ((r20 = 0 → w_Reader_bind_41 T Q  u19) ∧ (¬ r20 = 0 → w_Reader_bind_24 T Q  u19))) (fun n u => Q (.inr n) u)) u1 a1))) (fun n u => Q (.inr n) u)) σ 5
set_option maxRecDepth 20000 in
theorem sw_Reader_bind_41 {γ : xG1} {d b0 : Nat} {T : (xO → xS → Prop) → xS → Prop} (hT : ∀ Q σ, T Q σ → ∀ e, d + 20 ≤ e → xM (SHP, γ) Y_Reader_term e [.ref 24] σ Q) {Q : xO → xS → Prop} {σ : xS} (h : w_Reader_bind_41 T Q  σ) : xJ (SHP, γ) Y_Reader_bind (d + 21) b0 41 [(0, .ref 24)] [] σ Q := by
  refine xJ.aload_n (o_Reader_bind 20 rfl) rfl ?_
  refine xJ.getfield (o_Reader_bind 21 rfl) f_Reader_55 rfl rfl ?_
  refine xJ.istore_n (o_Reader_bind 22 rfl) (by decide) ?_
  replace h := h _ rfl
  refine xJ.iload_n (o_Reader_bind 23 rfl) rfl ?_
  refine xJ.bipush (v := 16) (o_Reader_bind 24 rfl) (by decide) ?_
  refine xJ.icmp_lt (tgt := 70) (o_Reader_bind 25 rfl) (by decide) (fun z => ?_) (fun z => ?_)
  · replace h := h.1 z
    refine xJ.aload_n (o_Reader_bind 35 rfl) rfl ?_
    refine xJ.getfield (o_Reader_bind 36 rfl) f_Reader_15 rfl rfl ?_
    refine xJ.iload_n (o_Reader_bind 37 rfl) rfl ?_
    refine xJ.aload_n (o_Reader_bind 38 rfl) rfl ?_
    refine xJ.getfield (o_Reader_bind 39 rfl) f_Reader_28 rfl rfl ?_
    refine xJ.getfield (o_Reader_bind 40 rfl) f_Reader_103 rfl rfl ?_
    refine xJ.iastore (o_Reader_bind 41 rfl) rfl h.1 ?_
    replace h := h.2
    replace h := h _ rfl
    refine xJ.aload_n (o_Reader_bind 42 rfl) rfl ?_
    refine xJ.getfield (o_Reader_bind 43 rfl) f_Reader_18 rfl rfl ?_
    refine xJ.iload_n (o_Reader_bind 44 rfl) rfl ?_
    refine xJ.aload_n (o_Reader_bind 45 rfl) rfl ?_
    refine xJ.getfield (o_Reader_bind 46 rfl) f_Reader_28 rfl rfl ?_
    refine xJ.getfield (o_Reader_bind 47 rfl) f_Reader_106 rfl rfl ?_
    refine xJ.iastore (o_Reader_bind 48 rfl) rfl h.1 ?_
    replace h := h.2
    replace h := h _ rfl
    refine xJ.aload_n (o_Reader_bind 49 rfl) rfl ?_
    refine xJ.getfield (o_Reader_bind 50 rfl) f_Reader_24 rfl rfl ?_
    refine xJ.iload_n (o_Reader_bind 51 rfl) rfl ?_
    refine xJ.iconst (v := 0) (o_Reader_bind 52 rfl) (by decide) ?_
    refine xJ.zastore (o_Reader_bind 53 rfl) rfl h.1 ?_
    replace h := h.2
    replace h := h _ rfl
    refine xJ.aload_n (o_Reader_bind 54 rfl) rfl ?_
    refine xJ.dup (o_Reader_bind 55 rfl) rfl ?_
    refine xJ.getfield (o_Reader_bind 56 rfl) f_Reader_55 rfl rfl ?_
    refine xJ.iconst (v := 1) (o_Reader_bind 57 rfl) (by decide) ?_
    refine xJ.iadd (o_Reader_bind 58 rfl) ?_
    refine xJ.putI (o_Reader_bind 59 rfl) f_Reader_55 rfl rfl rfl ?_
    replace h := h _ rfl
    refine xJ.aload_n (o_Reader_bind 60 rfl) rfl ?_
    refine xJ.getfield (o_Reader_bind 61 rfl) f_Reader_28 rfl rfl ?_
    refine xJ.callV (Y' := Y_Text_next) (o_Reader_bind 62 rfl) m_Reader_79 y_Text_next im_Text_next se_Text_next rfl rfl (s_Text_next h) rfl rfl (Nat.le_of_ble_eq_true rfl) (fun _ hx => by cases hx) (fun v u q => ?_) (fun n u q => q)
    obtain ⟨rfl, h⟩ := xqv_get q
    refine xJ.aload_n (o_Reader_bind 63 rfl) rfl ?_
    refine xJ.getfield (o_Reader_bind 64 rfl) f_Reader_21 rfl rfl ?_
    refine xJ.iload_n (o_Reader_bind 65 rfl) rfl ?_
    refine xJ.aload_n (o_Reader_bind 66 rfl) rfl ?_
    refine xJ.callV (Y' := Y_Reader_term) (o_Reader_bind 67 rfl) m_Reader_129 y_Reader_term im_Reader_term se_Reader_term rfl rfl (hT _ _ h _ (by omega)) rfl rfl (Nat.le_of_ble_eq_true rfl) (fun _ hx => by cases hx) (fun v u q => ?_) (fun n u q => q)
    obtain ⟨r, rfl, h⟩ := xqi_get q
    refine xJ.iastore (o_Reader_bind 68 rfl) rfl h.1 ?_
    replace h := h.2
    replace h := h _ rfl
    refine xJ.aload_n (o_Reader_bind 69 rfl) rfl ?_
    refine xJ.iconst (v := 1) (o_Reader_bind 70 rfl) (by decide) ?_
    refine xJ.callV (Y' := Y_Reader_expect) (o_Reader_bind 71 rfl) m_Reader_75 y_Reader_expect im_Reader_expect se_Reader_expect rfl rfl (s_Reader_expect h) rfl rfl (Nat.le_of_ble_eq_true rfl) (fun _ hx => by cases hx) (fun v u q => ?_) (fun n u q => q)
    obtain ⟨rfl, h⟩ := xqv_get q
    exact xJ.return_ (o_Reader_bind 72 rfl) rfl h
  · replace h := h.2 z
    refine xJ.aload_n (o_Reader_bind 26 rfl) rfl ?_
    refine xJ.getfield (o_Reader_bind 27 rfl) f_Reader_28 rfl rfl ?_
    refine xJ.bipush (v := 11) (o_Reader_bind 28 rfl) (by decide) ?_
    refine xJ.aload_n (o_Reader_bind 29 rfl) rfl ?_
    refine xJ.getfield (o_Reader_bind 30 rfl) f_Reader_28 rfl rfl ?_
    refine xJ.getfield (o_Reader_bind 31 rfl) f_Reader_103 rfl rfl ?_
    refine xJ.callV (Y' := Y_Text_fail) (o_Reader_bind 32 rfl) m_Reader_136 y_Text_fail im_Text_fail se_Text_fail rfl rfl (s_Text_fail h) rfl rfl (Nat.le_of_ble_eq_true rfl) (fun _ hx => by cases hx) (fun v u q => ?_) (fun n u q => q)
    obtain ⟨r, rfl, h⟩ := xqi_get q
    refine xJ.pop (o_Reader_bind 33 rfl) rfl ?_
    exact xJ.return_ (o_Reader_bind 34 rfl) rfl h
set_option maxRecDepth 20000 in
theorem sw_Reader_bind_24 {γ : xG1} {d b0 : Nat} {T : (xO → xS → Prop) → xS → Prop} (hT : ∀ Q σ, T Q σ → ∀ e, d + 20 ≤ e → xM (SHP, γ) Y_Reader_term e [.ref 24] σ Q) {Q : xO → xS → Prop} {σ : xS} (h : w_Reader_bind_24 T Q  σ) : xJ (SHP, γ) Y_Reader_bind (d + 21) b0 24 [(0, .ref 24)] [] σ Q := by
  refine xJ.aload_n (o_Reader_bind 12 rfl) rfl ?_
  refine xJ.getfield (o_Reader_bind 13 rfl) f_Reader_28 rfl rfl ?_
  refine xJ.bipush (v := 6) (o_Reader_bind 14 rfl) (by decide) ?_
  refine xJ.aload_n (o_Reader_bind 15 rfl) rfl ?_
  refine xJ.getfield (o_Reader_bind 16 rfl) f_Reader_28 rfl rfl ?_
  refine xJ.getfield (o_Reader_bind 17 rfl) f_Reader_103 rfl rfl ?_
  refine xJ.callV (Y' := Y_Text_fail) (o_Reader_bind 18 rfl) m_Reader_136 y_Text_fail im_Text_fail se_Text_fail rfl rfl (s_Text_fail h) rfl rfl (Nat.le_of_ble_eq_true rfl) (fun _ hx => by cases hx) (fun v u q => ?_) (fun n u q => q)
  obtain ⟨r, rfl, h⟩ := xqi_get q
  refine xJ.pop (o_Reader_bind 19 rfl) rfl ?_
  exact xJ.lvs (by exact ⟨rfl, trivial⟩) (sw_Reader_bind_41 hT h)
set_option maxRecDepth 20000 in
theorem s_Reader_bind {γ : xG1} {d : Nat} {T : (xO → xS → Prop) → xS → Prop} (hT : ∀ Q σ, T Q σ → ∀ e, d + 20 ≤ e → xM (SHP, γ) Y_Reader_term e [.ref 24] σ Q) {Q : xO → xS → Prop} {σ : xS} {a1 : Int32} (h : wp_Reader_bind T Q σ a1) : xM (SHP, γ) Y_Reader_bind (d + 21) [.ref 24, .int a1] σ Q := by
  refine xM.of (by decide) (Nat.le_of_ble_eq_true rfl) ?_
  refine xJ.aload_n (o_Reader_bind 0 rfl) rfl ?_
  refine xJ.iconst (v := 5) (o_Reader_bind 1 rfl) (by decide) ?_
  refine xJ.callV (Y' := Y_Reader_expect) (o_Reader_bind 2 rfl) m_Reader_75 y_Reader_expect im_Reader_expect se_Reader_expect rfl rfl (s_Reader_expect h) rfl rfl (Nat.le_of_ble_eq_true rfl) (fun _ hx => by cases hx) (fun v u q => ?_) (fun n u q => q)
  obtain ⟨rfl, h⟩ := xqv_get q
  refine xJ.aload_n (o_Reader_bind 3 rfl) rfl ?_
  refine xJ.getfield (o_Reader_bind 4 rfl) f_Reader_28 rfl rfl ?_
  refine xJ.getfield (o_Reader_bind 5 rfl) f_Reader_82 rfl rfl ?_
  refine xJ.iconst (v := (-1)) (o_Reader_bind 6 rfl) (by decide) ?_
  refine xJ.icmp_ne (tgt := 24) (o_Reader_bind 7 rfl) (by decide) (fun z => ?_) (fun z => ?_)
  · replace h := h.1 z
    exact xJ.lvs (by exact ⟨rfl, trivial⟩) (sw_Reader_bind_24 hT h)
  · replace h := h.2 z
    refine xJ.aload_n (o_Reader_bind 8 rfl) rfl ?_
    refine xJ.iload_n (o_Reader_bind 9 rfl) rfl ?_
    refine xJ.callV (Y' := Y_Reader_isBoundSince) (o_Reader_bind 10 rfl) m_Reader_265 y_Reader_isBoundSince im_Reader_isBoundSince se_Reader_isBoundSince rfl rfl (s_Reader_isBoundSince h) rfl rfl (Nat.le_of_ble_eq_true rfl) (fun _ hx => by cases hx) (fun v u q => ?_) (fun n u q => q)
    obtain ⟨r, rfl, h⟩ := xqi_get q
    refine xJ.if_eq (tgt := 41) (o_Reader_bind 11 rfl) (by decide) (fun z => ?_) (fun z => ?_)
    · replace h := h.1 z
      exact xJ.lvs (by exact ⟨rfl, trivial⟩) (sw_Reader_bind_41 hT h)
    · replace h := h.2 z
      exact xJ.lvs (by exact ⟨rfl, trivial⟩) (sw_Reader_bind_24 hT h)
def w_Reader_let_72 (T : (xO → xS → Prop) → xS → Prop) (Q : xO → xS → Prop) : Nat → Int32 → Int32 → xS → Prop
  | 0 => fun _ _ _ => False
  | n + 1 => fun a1 a2 σ =>
    (((xi σ 24 9) ≤ a2 → wp_Text_next (xqv (fun u6 => T (xqi (fun r9 u8 => (∀ s10 : xS, s10 = xpi u8 24 9 a1 → wp_Reader_expect (xqv (fun u11 => Q (.inl (some (.int r9))) u11) (fun n u => Q (.inr n) u)) s10 1)) (fun n u => Q (.inr n) u)) u6 ) (fun n u => Q (.inr n) u)) σ ) ∧ (¬ (xi σ 24 9) ≤ a2 → (vp_in a2 16 ∧ (∀ s13 : xS, s13 = xpi σ 29 a2.toNatClampNeg (vp_nar .boolean 1) → (∀ x14 : Int32, x14 = a2 + 1 → w_Reader_let_72 T Q n a1 x14 s13)))))
def w_Reader_let_51 (T : (xO → xS → Prop) → xS → Prop) (Q : xO → xS → Prop) (a1 : Int32) (σ : xS) : Prop :=
  (((xi σ 1 9) = 1 → ∃ m, w_Reader_let_72 T Q m a1 a1 σ) ∧ (¬ (xi σ 1 9) = 1 → wp_Text_failHere (xqi (fun r16 u15 => Q (.inl (some (.int r16))) u15) (fun n u => Q (.inr n) u)) σ ))
def w_Reader_let_17 (T : (xO → xS → Prop) → xS → Prop) (Q : xO → xS → Prop) : Nat → Int32 → Int32 → xS → Prop
  | 0 => fun _ _ _ => False
  | n + 1 => fun a1 a2 σ =>
    ((16 < a2 → w_Reader_let_51 T Q a1 σ) ∧ (¬ 16 < a2 → ((¬ (xi σ 1 9) = 0 → w_Reader_let_51 T Q a1 σ) ∧ ((xi σ 1 9) = 0 → wp_Reader_bind T (xqv (fun u17 => wp_Text_next (xqv (fun u19 => (∀ x21 : Int32, x21 = a2 + 1 → w_Reader_let_17 T Q n a1 x21 u19)) (fun n u => Q (.inr n) u)) u17 ) (fun n u => Q (.inr n) u)) σ a1))))
def wp_Reader_let (T : (xO → xS → Prop) → xS → Prop) (Q : xO → xS → Prop) (σ : xS)  : Prop :=
  (∀ x1 : Int32, x1 = (xi σ 24 9) → wp_Reader_expect (xqv (fun u2 => wp_Reader_expect (xqv (fun u4 => ∃ m, w_Reader_let_17 T Q m x1 0 u4) (fun n u => Q (.inr n) u)) u2 0) (fun n u => Q (.inr n) u)) σ 0)
set_option maxRecDepth 20000 in
theorem sw_Reader_let_72 {γ : xG1} {d b0 : Nat} {T : (xO → xS → Prop) → xS → Prop} (hT : ∀ Q σ, T Q σ → ∀ e, d + 20 ≤ e → xM (SHP, γ) Y_Reader_term e [.ref 24] σ Q) {Q : xO → xS → Prop} : ∀ (n : Nat) (a1 : Int32) (a2 : Int32) (σ : xS), w_Reader_let_72 T Q n a1 a2 σ → xJ (SHP, γ) Y_Reader_let (d + 22) b0 72 [(0, .ref 24), (1, .int a1), (2, .int a2)] [] σ Q := by
  intro n
  induction n with
  | zero => intro a1 a2 σ h; exact h.elim
  | succ n ih =>
    intro a1 a2 σ h
    refine xJ.iload_n (o_Reader_let 37 rfl) rfl ?_
    refine xJ.aload_n (o_Reader_let 38 rfl) rfl ?_
    refine xJ.getfield (o_Reader_let 39 rfl) f_Reader_55 rfl rfl ?_
    refine xJ.icmp_ge (tgt := 93) (o_Reader_let 40 rfl) (by decide) (fun z => ?_) (fun z => ?_)
    · replace h := h.1 z
      refine xJ.aload_n (o_Reader_let 48 rfl) rfl ?_
      refine xJ.getfield (o_Reader_let 49 rfl) f_Reader_28 rfl rfl ?_
      refine xJ.callV (Y' := Y_Text_next) (o_Reader_let 50 rfl) m_Reader_79 y_Text_next im_Text_next se_Text_next rfl rfl (s_Text_next h) rfl rfl (Nat.le_of_ble_eq_true rfl) (fun _ hx => by cases hx) (fun v u q => ?_) (fun n u q => q)
      obtain ⟨rfl, h⟩ := xqv_get q
      refine xJ.aload_n (o_Reader_let 51 rfl) rfl ?_
      refine xJ.callV (Y' := Y_Reader_term) (o_Reader_let 52 rfl) m_Reader_129 y_Reader_term im_Reader_term se_Reader_term rfl rfl (hT _ _ h _ (by omega)) rfl rfl (Nat.le_of_ble_eq_true rfl) (fun _ hx => by cases hx) (fun v u q => ?_) (fun n u q => q)
      obtain ⟨r, rfl, h⟩ := xqi_get q
      refine xJ.istore_n (o_Reader_let 53 rfl) (by decide) ?_
      refine xJ.aload_n (o_Reader_let 54 rfl) rfl ?_
      refine xJ.iload_n (o_Reader_let 55 rfl) rfl ?_
      refine xJ.putI (o_Reader_let 56 rfl) f_Reader_55 rfl rfl rfl ?_
      replace h := h _ rfl
      refine xJ.aload_n (o_Reader_let 57 rfl) rfl ?_
      refine xJ.iconst (v := 1) (o_Reader_let 58 rfl) (by decide) ?_
      refine xJ.callV (Y' := Y_Reader_expect) (o_Reader_let 59 rfl) m_Reader_75 y_Reader_expect im_Reader_expect se_Reader_expect rfl rfl (s_Reader_expect h) rfl rfl (Nat.le_of_ble_eq_true rfl) (fun _ hx => by cases hx) (fun v u q => ?_) (fun n u q => q)
      obtain ⟨rfl, h⟩ := xqv_get q
      refine xJ.iload_n (o_Reader_let 60 rfl) rfl ?_
      exact xJ.ireturn (o_Reader_let 61 rfl) rfl h
    · replace h := h.2 z
      refine xJ.aload_n (o_Reader_let 41 rfl) rfl ?_
      refine xJ.getfield (o_Reader_let 42 rfl) f_Reader_24 rfl rfl ?_
      refine xJ.iload_n (o_Reader_let 43 rfl) rfl ?_
      refine xJ.iconst (v := 1) (o_Reader_let 44 rfl) (by decide) ?_
      refine xJ.zastore (o_Reader_let 45 rfl) rfl h.1 ?_
      replace h := h.2
      replace h := h _ rfl
      refine xJ.iincC (w := 1) (o_Reader_let 46 rfl) rfl (by decide) (by decide) ?_
      replace h := h _ rfl
      refine xJ.goto (tgt := 72) (o_Reader_let 47 rfl) (by decide) ?_
      exact xJ.lvs (by exact ⟨rfl, rfl, rfl, trivial⟩) (ih _ _ _ h)
set_option maxRecDepth 20000 in
theorem sw_Reader_let_51 {γ : xG1} {d b0 : Nat} {T : (xO → xS → Prop) → xS → Prop} (hT : ∀ Q σ, T Q σ → ∀ e, d + 20 ≤ e → xM (SHP, γ) Y_Reader_term e [.ref 24] σ Q) {Q : xO → xS → Prop} {a1 : Int32} {σ : xS} (h : w_Reader_let_51 T Q a1 σ) : xJ (SHP, γ) Y_Reader_let (d + 22) b0 51 [(0, .ref 24), (1, .int a1)] [] σ Q := by
  refine xJ.aload_n (o_Reader_let 26 rfl) rfl ?_
  refine xJ.getfield (o_Reader_let 27 rfl) f_Reader_28 rfl rfl ?_
  refine xJ.getfield (o_Reader_let 28 rfl) f_Reader_97 rfl rfl ?_
  refine xJ.iconst (v := 1) (o_Reader_let 29 rfl) (by decide) ?_
  refine xJ.icmp_eq (tgt := 70) (o_Reader_let 30 rfl) (by decide) (fun z => ?_) (fun z => ?_)
  · replace h := h.1 z
    refine xJ.iload_n (o_Reader_let 35 rfl) rfl ?_
    refine xJ.istore_n (o_Reader_let 36 rfl) (by decide) ?_
    obtain ⟨m, h⟩ := h
    exact xJ.lvs (by exact ⟨rfl, rfl, rfl, trivial⟩) (sw_Reader_let_72 hT m _ _ _ h)
  · replace h := h.2 z
    refine xJ.aload_n (o_Reader_let 31 rfl) rfl ?_
    refine xJ.getfield (o_Reader_let 32 rfl) f_Reader_28 rfl rfl ?_
    refine xJ.callV (Y' := Y_Text_failHere) (o_Reader_let 33 rfl) m_Reader_94 y_Text_failHere im_Text_failHere se_Text_failHere rfl rfl (s_Text_failHere h) rfl rfl (Nat.le_of_ble_eq_true rfl) (fun _ hx => by cases hx) (fun v u q => ?_) (fun n u q => q)
    obtain ⟨r, rfl, h⟩ := xqi_get q
    exact xJ.ireturn (o_Reader_let 34 rfl) rfl h
set_option maxRecDepth 20000 in
theorem sw_Reader_let_17 {γ : xG1} {d b0 : Nat} {T : (xO → xS → Prop) → xS → Prop} (hT : ∀ Q σ, T Q σ → ∀ e, d + 20 ≤ e → xM (SHP, γ) Y_Reader_term e [.ref 24] σ Q) {Q : xO → xS → Prop} : ∀ (n : Nat) (a1 : Int32) (a2 : Int32) (σ : xS), w_Reader_let_17 T Q n a1 a2 σ → xJ (SHP, γ) Y_Reader_let (d + 22) b0 17 [(0, .ref 24), (1, .int a1), (2, .int a2)] [] σ Q := by
  intro n
  induction n with
  | zero => intro a1 a2 σ h; exact h.elim
  | succ n ih =>
    intro a1 a2 σ h
    refine xJ.iload_n (o_Reader_let 11 rfl) rfl ?_
    refine xJ.bipush (v := 16) (o_Reader_let 12 rfl) (by decide) ?_
    refine xJ.icmp_gt (tgt := 51) (o_Reader_let 13 rfl) (by decide) (fun z => ?_) (fun z => ?_)
    · replace h := h.1 z
      exact xJ.lvs (by exact ⟨rfl, rfl, trivial⟩) (sw_Reader_let_51 hT h)
    · replace h := h.2 z
      refine xJ.aload_n (o_Reader_let 14 rfl) rfl ?_
      refine xJ.getfield (o_Reader_let 15 rfl) f_Reader_28 rfl rfl ?_
      refine xJ.getfield (o_Reader_let 16 rfl) f_Reader_97 rfl rfl ?_
      refine xJ.if_ne (tgt := 51) (o_Reader_let 17 rfl) (by decide) (fun z => ?_) (fun z => ?_)
      · replace h := h.1 z
        exact xJ.lvs (by exact ⟨rfl, rfl, trivial⟩) (sw_Reader_let_51 hT h)
      · replace h := h.2 z
        refine xJ.aload_n (o_Reader_let 18 rfl) rfl ?_
        refine xJ.iload_n (o_Reader_let 19 rfl) rfl ?_
        refine xJ.callV (Y' := Y_Reader_bind) (o_Reader_let 20 rfl) m_Reader_262 y_Reader_bind im_Reader_bind se_Reader_bind rfl rfl (s_Reader_bind (fun _ _ hz e he => hT _ _ hz e (by omega)) h) rfl rfl (Nat.le_of_ble_eq_true rfl) (fun _ hx => by cases hx) (fun v u q => ?_) (fun n u q => q)
        obtain ⟨rfl, h⟩ := xqv_get q
        refine xJ.aload_n (o_Reader_let 21 rfl) rfl ?_
        refine xJ.getfield (o_Reader_let 22 rfl) f_Reader_28 rfl rfl ?_
        refine xJ.callV (Y' := Y_Text_next) (o_Reader_let 23 rfl) m_Reader_79 y_Text_next im_Text_next se_Text_next rfl rfl (s_Text_next h) rfl rfl (Nat.le_of_ble_eq_true rfl) (fun _ hx => by cases hx) (fun v u q => ?_) (fun n u q => q)
        obtain ⟨rfl, h⟩ := xqv_get q
        refine xJ.iincC (w := 1) (o_Reader_let 24 rfl) rfl (by decide) (by decide) ?_
        replace h := h _ rfl
        refine xJ.goto (tgt := 17) (o_Reader_let 25 rfl) (by decide) ?_
        exact xJ.lvs (by exact ⟨rfl, rfl, rfl, trivial⟩) (ih _ _ _ h)
set_option maxRecDepth 20000 in
theorem s_Reader_let {γ : xG1} {d : Nat} {T : (xO → xS → Prop) → xS → Prop} (hT : ∀ Q σ, T Q σ → ∀ e, d + 20 ≤ e → xM (SHP, γ) Y_Reader_term e [.ref 24] σ Q) {Q : xO → xS → Prop} {σ : xS}  (h : wp_Reader_let T Q σ ) : xM (SHP, γ) Y_Reader_let (d + 22) [.ref 24] σ Q := by
  refine xM.of (by decide) (Nat.le_of_ble_eq_true rfl) ?_
  refine xJ.aload_n (o_Reader_let 0 rfl) rfl ?_
  refine xJ.getfield (o_Reader_let 1 rfl) f_Reader_55 rfl rfl ?_
  refine xJ.istore_n (o_Reader_let 2 rfl) (by decide) ?_
  replace h := h _ rfl
  refine xJ.aload_n (o_Reader_let 3 rfl) rfl ?_
  refine xJ.iconst (v := 0) (o_Reader_let 4 rfl) (by decide) ?_
  refine xJ.callV (Y' := Y_Reader_expect) (o_Reader_let 5 rfl) m_Reader_75 y_Reader_expect im_Reader_expect se_Reader_expect rfl rfl (s_Reader_expect h) rfl rfl (Nat.le_of_ble_eq_true rfl) (fun _ hx => by cases hx) (fun v u q => ?_) (fun n u q => q)
  obtain ⟨rfl, h⟩ := xqv_get q
  refine xJ.aload_n (o_Reader_let 6 rfl) rfl ?_
  refine xJ.iconst (v := 0) (o_Reader_let 7 rfl) (by decide) ?_
  refine xJ.callV (Y' := Y_Reader_expect) (o_Reader_let 8 rfl) m_Reader_75 y_Reader_expect im_Reader_expect se_Reader_expect rfl rfl (s_Reader_expect h) rfl rfl (Nat.le_of_ble_eq_true rfl) (fun _ hx => by cases hx) (fun v u q => ?_) (fun n u q => q)
  obtain ⟨rfl, h⟩ := xqv_get q
  refine xJ.iconst (v := 0) (o_Reader_let 9 rfl) (by decide) ?_
  refine xJ.istore_n (o_Reader_let 10 rfl) (by decide) ?_
  obtain ⟨m, h⟩ := h
  exact xJ.lvs (by exact ⟨rfl, rfl, rfl, trivial⟩) (sw_Reader_let_17 hT m _ _ _ h)
def w_Reader_bracketTerm_53 (T : (xO → xS → Prop) → xS → Prop) (Q : xO → xS → Prop) (a1 : Int32) (t0 : Int32) (σ : xS) : Prop :=
  (∀ x6 : Int32, x6 = (xi σ 24 10) → (∀ x7 : Int32, x7 = (xi σ 24 11) → (∀ x8 : Int32, x8 = (xi σ 24 4) → wp_Reader_readArguments T (xqv (fun u9 => (∀ x11 : Int32, x11 = ((xi u9 24 4) - x8) → wp_Reader_fitsMany (xqi (fun r13 u12 => ((¬ r13 = 0 → (∀ s14 : xS, s14 = xpi u12 24 10 x6 → (∀ s15 : xS, s15 = xpi s14 24 11 x7 → wp_Reader_sortOfResult (xqi (fun r17 u16 => ((¬ r17 = (-1) → wp_Sorts_size (xqi (fun r19 u18 => (vp_in x8 2400 ∧ (vp_in (xi u18 25 x8.toNatClampNeg) 2000 ∧ wp_Sorts_size (xqi (fun r21 u20 => wp_Reader_weigh (xqi (fun r23 u22 => wp_Reader_make (xqi (fun r25 u24 => wp_Reader_giveArguments (xqv (fun u26 => Q (.inl (some (.int r25))) u26) (fun n u => Q (.inr n) u)) u24 r25 x8) (fun n u => Q (.inr n) u)) u22 a1 t0 r17 r23 0) (fun n u => Q (.inr n) u)) u20 t0 r19 r21 x11) (fun n u => Q (.inr n) u)) u18 (xi u18 8 (xi u18 25 x8.toNatClampNeg).toNatClampNeg)))) (fun n u => Q (.inr n) u)) u16 r17) ∧ (r17 = (-1) → wp_Text_fail (xqi (fun r29 u28 => Q (.inl (some (.int r29))) u28) (fun n u => Q (.inr n) u)) u16 9 a1))) (fun n u => Q (.inr n) u)) s15 t0 x8))) ∧ (r13 = 0 → wp_Text_fail (xqi (fun r31 u30 => Q (.inl (some (.int r31))) u30) (fun n u => Q (.inr n) u)) u12 8 a1))) (fun n u => Q (.inr n) u)) u9 t0 x11)) (fun n u => Q (.inr n) u)) σ a1)))
def wp_Reader_bracketTerm (T : (xO → xS → Prop) → xS → Prop) (Q : xO → xS → Prop) (σ : xS)  : Prop :=
  (∀ x1 : Int32, x1 = (xi σ 1 10) → wp_Text_next (xqv (fun u2 => ((¬ (xi u2 1 12) = 9 → ((¬ (xi u2 1 9) = 0 → wp_Reader_plainOperator (xqi (fun r5 u4 => w_Reader_bracketTerm_53 T Q x1 r5 u4) (fun n u => Q (.inr n) u)) u2 ) ∧ ((xi u2 1 9) = 0 → wp_Reader_indexedOperator (xqi (fun r33 u32 => w_Reader_bracketTerm_53 T Q x1 r33 u32) (fun n u => Q (.inr n) u)) u2 ))) ∧ ((xi u2 1 12) = 9 → wp_Reader_let T (xqi (fun r35 u34 => Q (.inl (some (.int r35))) u34) (fun n u => Q (.inr n) u)) u2 ))) (fun n u => Q (.inr n) u)) σ )
set_option maxRecDepth 20000 in
theorem sw_Reader_bracketTerm_53 {γ : xG1} {d b0 : Nat} {T : (xO → xS → Prop) → xS → Prop} (hT : ∀ Q σ, T Q σ → ∀ e, d + 20 ≤ e → xM (SHP, γ) Y_Reader_term e [.ref 24] σ Q) {Q : xO → xS → Prop} {a1 : Int32} {t0 : Int32} {σ : xS} (h : w_Reader_bracketTerm_53 T Q a1 t0 σ) : xJ (SHP, γ) Y_Reader_bracketTerm (d + 23) b0 53 [(0, .ref 24), (1, .int a1)] [.int t0] σ Q := by
  refine xJ.istore_n (o_Reader_bracketTerm 24 rfl) (by decide) ?_
  refine xJ.aload_n (o_Reader_bracketTerm 25 rfl) rfl ?_
  refine xJ.getfield (o_Reader_bracketTerm 26 rfl) f_Reader_201 rfl rfl ?_
  refine xJ.istore_n (o_Reader_bracketTerm 27 rfl) (by decide) ?_
  replace h := h _ rfl
  refine xJ.aload_n (o_Reader_bracketTerm 28 rfl) rfl ?_
  refine xJ.getfield (o_Reader_bracketTerm 29 rfl) f_Reader_204 rfl rfl ?_
  refine xJ.istore (o_Reader_bracketTerm 30 rfl) (by decide) ?_
  replace h := h _ rfl
  refine xJ.aload_n (o_Reader_bracketTerm 31 rfl) rfl ?_
  refine xJ.getfield (o_Reader_bracketTerm 32 rfl) f_Reader_51 rfl rfl ?_
  refine xJ.istore (o_Reader_bracketTerm 33 rfl) (by decide) ?_
  replace h := h _ rfl
  refine xJ.aload_n (o_Reader_bracketTerm 34 rfl) rfl ?_
  refine xJ.iload_n (o_Reader_bracketTerm 35 rfl) rfl ?_
  refine xJ.callV (Y' := Y_Reader_readArguments) (o_Reader_bracketTerm 36 rfl) m_Reader_207 y_Reader_readArguments im_Reader_readArguments se_Reader_readArguments rfl rfl (s_Reader_readArguments (fun _ _ hz e he => hT _ _ hz e (by omega)) h) rfl rfl (Nat.le_of_ble_eq_true rfl) (fun _ hx => by cases hx) (fun v u q => ?_) (fun n u q => q)
  obtain ⟨rfl, h⟩ := xqv_get q
  refine xJ.aload_n (o_Reader_bracketTerm 37 rfl) rfl ?_
  refine xJ.getfield (o_Reader_bracketTerm 38 rfl) f_Reader_51 rfl rfl ?_
  refine xJ.iload (o_Reader_bracketTerm 39 rfl) rfl ?_
  refine xJ.isub (o_Reader_bracketTerm 40 rfl) ?_
  refine xJ.istore (o_Reader_bracketTerm 41 rfl) (by decide) ?_
  replace h := h _ rfl
  refine xJ.iload_n (o_Reader_bracketTerm 42 rfl) rfl ?_
  refine xJ.iload (o_Reader_bracketTerm 43 rfl) rfl ?_
  refine xJ.callS (Y' := Y_Reader_fitsMany) (o_Reader_bracketTerm 44 rfl) m_Reader_210 y_Reader_fitsMany st_Reader_fitsMany (s_Reader_fitsMany h) rfl rfl (Nat.le_of_ble_eq_true rfl) (fun _ hx => by cases hx) (fun v u q => ?_) (fun n u q => q)
  obtain ⟨r, rfl, h⟩ := xqi_get q
  refine xJ.if_ne (tgt := 105) (o_Reader_bracketTerm 45 rfl) (by decide) (fun z => ?_) (fun z => ?_)
  · replace h := h.1 z
    refine xJ.aload_n (o_Reader_bracketTerm 52 rfl) rfl ?_
    refine xJ.iload_n (o_Reader_bracketTerm 53 rfl) rfl ?_
    refine xJ.putI (o_Reader_bracketTerm 54 rfl) f_Reader_201 rfl rfl rfl ?_
    replace h := h _ rfl
    refine xJ.aload_n (o_Reader_bracketTerm 55 rfl) rfl ?_
    refine xJ.iload (o_Reader_bracketTerm 56 rfl) rfl ?_
    refine xJ.putI (o_Reader_bracketTerm 57 rfl) f_Reader_204 rfl rfl rfl ?_
    replace h := h _ rfl
    refine xJ.aload_n (o_Reader_bracketTerm 58 rfl) rfl ?_
    refine xJ.iload_n (o_Reader_bracketTerm 59 rfl) rfl ?_
    refine xJ.iload (o_Reader_bracketTerm 60 rfl) rfl ?_
    refine xJ.callV (Y' := Y_Reader_sortOfResult) (o_Reader_bracketTerm 61 rfl) m_Reader_213 y_Reader_sortOfResult im_Reader_sortOfResult se_Reader_sortOfResult rfl rfl (s_Reader_sortOfResult h) rfl rfl (Nat.le_of_ble_eq_true rfl) (fun _ hx => by cases hx) (fun v u q => ?_) (fun n u q => q)
    obtain ⟨r, rfl, h⟩ := xqi_get q
    refine xJ.istore (o_Reader_bracketTerm 62 rfl) (by decide) ?_
    refine xJ.iload (o_Reader_bracketTerm 63 rfl) rfl ?_
    refine xJ.iconst (v := (-1)) (o_Reader_bracketTerm 64 rfl) (by decide) ?_
    refine xJ.icmp_ne (tgt := 142) (o_Reader_bracketTerm 65 rfl) (by decide) (fun z => ?_) (fun z => ?_)
    · replace h := h.1 z
      refine xJ.iload_n (o_Reader_bracketTerm 72 rfl) rfl ?_
      refine xJ.iload (o_Reader_bracketTerm 73 rfl) rfl ?_
      refine xJ.callS (Y' := Y_Sorts_size) (o_Reader_bracketTerm 74 rfl) m_Reader_112 y_Sorts_size st_Sorts_size (s_Sorts_size h) rfl rfl (Nat.le_of_ble_eq_true rfl) (fun _ hx => by cases hx) (fun v u q => ?_) (fun n u q => q)
      obtain ⟨r, rfl, h⟩ := xqi_get q
      refine xJ.aload_n (o_Reader_bracketTerm 75 rfl) rfl ?_
      refine xJ.getfield (o_Reader_bracketTerm 76 rfl) f_Reader_42 rfl rfl ?_
      refine xJ.getfield (o_Reader_bracketTerm 77 rfl) f_Reader_132 rfl rfl ?_
      refine xJ.aload_n (o_Reader_bracketTerm 78 rfl) rfl ?_
      refine xJ.getfield (o_Reader_bracketTerm 79 rfl) f_Reader_9 rfl rfl ?_
      refine xJ.iload (o_Reader_bracketTerm 80 rfl) rfl ?_
      refine xJ.iaload (o_Reader_bracketTerm 81 rfl) rfl h.1 ?_
      replace h := h.2
      refine xJ.iaload (o_Reader_bracketTerm 82 rfl) rfl h.1 ?_
      replace h := h.2
      refine xJ.callS (Y' := Y_Sorts_size) (o_Reader_bracketTerm 83 rfl) m_Reader_112 y_Sorts_size st_Sorts_size (s_Sorts_size h) rfl rfl (Nat.le_of_ble_eq_true rfl) (fun _ hx => by cases hx) (fun v u q => ?_) (fun n u q => q)
      obtain ⟨r, rfl, h⟩ := xqi_get q
      refine xJ.iload (o_Reader_bracketTerm 84 rfl) rfl ?_
      refine xJ.callS (Y' := Y_Reader_weigh) (o_Reader_bracketTerm 85 rfl) m_Reader_216 y_Reader_weigh st_Reader_weigh (s_Reader_weigh h) rfl rfl (Nat.le_of_ble_eq_true rfl) (fun _ hx => by cases hx) (fun v u q => ?_) (fun n u q => q)
      obtain ⟨r, rfl, h⟩ := xqi_get q
      refine xJ.istore (o_Reader_bracketTerm 86 rfl) (by decide) ?_
      refine xJ.aload_n (o_Reader_bracketTerm 87 rfl) rfl ?_
      refine xJ.iload_n (o_Reader_bracketTerm 88 rfl) rfl ?_
      refine xJ.iload_n (o_Reader_bracketTerm 89 rfl) rfl ?_
      refine xJ.iload (o_Reader_bracketTerm 90 rfl) rfl ?_
      refine xJ.iload (o_Reader_bracketTerm 91 rfl) rfl ?_
      refine xJ.lconst (v := 0) (o_Reader_bracketTerm 92 rfl) (by decide) ?_
      refine xJ.callV (Y' := Y_Reader_make) (o_Reader_bracketTerm 93 rfl) m_Reader_118 y_Reader_make im_Reader_make se_Reader_make rfl rfl (s_Reader_make h) rfl rfl (Nat.le_of_ble_eq_true rfl) (fun _ hx => by cases hx) (fun v u q => ?_) (fun n u q => q)
      obtain ⟨r, rfl, h⟩ := xqi_get q
      refine xJ.istore (o_Reader_bracketTerm 94 rfl) (by decide) ?_
      refine xJ.aload_n (o_Reader_bracketTerm 95 rfl) rfl ?_
      refine xJ.iload (o_Reader_bracketTerm 96 rfl) rfl ?_
      refine xJ.iload (o_Reader_bracketTerm 97 rfl) rfl ?_
      refine xJ.callV (Y' := Y_Reader_giveArguments) (o_Reader_bracketTerm 98 rfl) m_Reader_220 y_Reader_giveArguments im_Reader_giveArguments se_Reader_giveArguments rfl rfl (s_Reader_giveArguments h) rfl rfl (Nat.le_of_ble_eq_true rfl) (fun _ hx => by cases hx) (fun v u q => ?_) (fun n u q => q)
      obtain ⟨rfl, h⟩ := xqv_get q
      refine xJ.iload (o_Reader_bracketTerm 99 rfl) rfl ?_
      exact xJ.ireturn (o_Reader_bracketTerm 100 rfl) rfl h
    · replace h := h.2 z
      refine xJ.aload_n (o_Reader_bracketTerm 66 rfl) rfl ?_
      refine xJ.getfield (o_Reader_bracketTerm 67 rfl) f_Reader_28 rfl rfl ?_
      refine xJ.bipush (v := 9) (o_Reader_bracketTerm 68 rfl) (by decide) ?_
      refine xJ.iload_n (o_Reader_bracketTerm 69 rfl) rfl ?_
      refine xJ.callV (Y' := Y_Text_fail) (o_Reader_bracketTerm 70 rfl) m_Reader_136 y_Text_fail im_Text_fail se_Text_fail rfl rfl (s_Text_fail h) rfl rfl (Nat.le_of_ble_eq_true rfl) (fun _ hx => by cases hx) (fun v u q => ?_) (fun n u q => q)
      obtain ⟨r, rfl, h⟩ := xqi_get q
      exact xJ.ireturn (o_Reader_bracketTerm 71 rfl) rfl h
  · replace h := h.2 z
    refine xJ.aload_n (o_Reader_bracketTerm 46 rfl) rfl ?_
    refine xJ.getfield (o_Reader_bracketTerm 47 rfl) f_Reader_28 rfl rfl ?_
    refine xJ.bipush (v := 8) (o_Reader_bracketTerm 48 rfl) (by decide) ?_
    refine xJ.iload_n (o_Reader_bracketTerm 49 rfl) rfl ?_
    refine xJ.callV (Y' := Y_Text_fail) (o_Reader_bracketTerm 50 rfl) m_Reader_136 y_Text_fail im_Text_fail se_Text_fail rfl rfl (s_Text_fail h) rfl rfl (Nat.le_of_ble_eq_true rfl) (fun _ hx => by cases hx) (fun v u q => ?_) (fun n u q => q)
    obtain ⟨r, rfl, h⟩ := xqi_get q
    exact xJ.ireturn (o_Reader_bracketTerm 51 rfl) rfl h
set_option maxRecDepth 20000 in
theorem s_Reader_bracketTerm {γ : xG1} {d : Nat} {T : (xO → xS → Prop) → xS → Prop} (hT : ∀ Q σ, T Q σ → ∀ e, d + 20 ≤ e → xM (SHP, γ) Y_Reader_term e [.ref 24] σ Q) {Q : xO → xS → Prop} {σ : xS}  (h : wp_Reader_bracketTerm T Q σ ) : xM (SHP, γ) Y_Reader_bracketTerm (d + 23) [.ref 24] σ Q := by
  refine xM.of (by decide) (Nat.le_of_ble_eq_true rfl) ?_
  refine xJ.aload_n (o_Reader_bracketTerm 0 rfl) rfl ?_
  refine xJ.getfield (o_Reader_bracketTerm 1 rfl) f_Reader_28 rfl rfl ?_
  refine xJ.getfield (o_Reader_bracketTerm 2 rfl) f_Reader_103 rfl rfl ?_
  refine xJ.istore_n (o_Reader_bracketTerm 3 rfl) (by decide) ?_
  replace h := h _ rfl
  refine xJ.aload_n (o_Reader_bracketTerm 4 rfl) rfl ?_
  refine xJ.getfield (o_Reader_bracketTerm 5 rfl) f_Reader_28 rfl rfl ?_
  refine xJ.callV (Y' := Y_Text_next) (o_Reader_bracketTerm 6 rfl) m_Reader_79 y_Text_next im_Text_next se_Text_next rfl rfl (s_Text_next h) rfl rfl (Nat.le_of_ble_eq_true rfl) (fun _ hx => by cases hx) (fun v u q => ?_) (fun n u q => q)
  obtain ⟨rfl, h⟩ := xqv_get q
  refine xJ.aload_n (o_Reader_bracketTerm 7 rfl) rfl ?_
  refine xJ.getfield (o_Reader_bracketTerm 8 rfl) f_Reader_28 rfl rfl ?_
  refine xJ.getfield (o_Reader_bracketTerm 9 rfl) f_Reader_82 rfl rfl ?_
  refine xJ.bipush (v := 9) (o_Reader_bracketTerm 10 rfl) (by decide) ?_
  refine xJ.icmp_ne (tgt := 32) (o_Reader_bracketTerm 11 rfl) (by decide) (fun z => ?_) (fun z => ?_)
  · replace h := h.1 z
    refine xJ.aload_n (o_Reader_bracketTerm 15 rfl) rfl ?_
    refine xJ.getfield (o_Reader_bracketTerm 16 rfl) f_Reader_28 rfl rfl ?_
    refine xJ.getfield (o_Reader_bracketTerm 17 rfl) f_Reader_97 rfl rfl ?_
    refine xJ.if_ne (tgt := 49) (o_Reader_bracketTerm 18 rfl) (by decide) (fun z => ?_) (fun z => ?_)
    · replace h := h.1 z
      refine xJ.aload_n (o_Reader_bracketTerm 22 rfl) rfl ?_
      refine xJ.callV (Y' := Y_Reader_plainOperator) (o_Reader_bracketTerm 23 rfl) m_Reader_198 y_Reader_plainOperator im_Reader_plainOperator se_Reader_plainOperator rfl rfl (s_Reader_plainOperator h) rfl rfl (Nat.le_of_ble_eq_true rfl) (fun _ hx => by cases hx) (fun v u q => ?_) (fun n u q => q)
      obtain ⟨r, rfl, h⟩ := xqi_get q
      exact xJ.lvs (by exact ⟨rfl, rfl, trivial⟩) (sw_Reader_bracketTerm_53 hT h)
    · replace h := h.2 z
      refine xJ.aload_n (o_Reader_bracketTerm 19 rfl) rfl ?_
      refine xJ.callV (Y' := Y_Reader_indexedOperator) (o_Reader_bracketTerm 20 rfl) m_Reader_195 y_Reader_indexedOperator im_Reader_indexedOperator se_Reader_indexedOperator rfl rfl (s_Reader_indexedOperator h) rfl rfl (Nat.le_of_ble_eq_true rfl) (fun _ hx => by cases hx) (fun v u q => ?_) (fun n u q => q)
      obtain ⟨r, rfl, h⟩ := xqi_get q
      refine xJ.goto (tgt := 53) (o_Reader_bracketTerm 21 rfl) (by decide) ?_
      exact xJ.lvs (by exact ⟨rfl, rfl, trivial⟩) (sw_Reader_bracketTerm_53 hT h)
  · replace h := h.2 z
    refine xJ.aload_n (o_Reader_bracketTerm 12 rfl) rfl ?_
    refine xJ.callV (Y' := Y_Reader_let) (o_Reader_bracketTerm 13 rfl) m_Reader_192 y_Reader_let im_Reader_let se_Reader_let rfl rfl (s_Reader_let (fun _ _ hz e he => hT _ _ hz e (by omega)) h) rfl rfl (Nat.le_of_ble_eq_true rfl) (fun _ hx => by cases hx) (fun v u q => ?_) (fun n u q => q)
    obtain ⟨r, rfl, h⟩ := xqi_get q
    exact xJ.ireturn (o_Reader_bracketTerm 14 rfl) rfl h
def w_Reader_symbolTerm_7 (Q : xO → xS → Prop) : Nat → Int32 → xS → Prop
  | 0 => fun _ _ => False
  | n + 1 => fun a1 σ =>
    ((a1 < 0 → wp_Book_findName (xqi (fun r3 u2 => ((¬ r3 = (-1) → (vp_in r3 500 ∧ Q (.inl (some (.int (xi u2 18 r3.toNatClampNeg)))) u2)) ∧ (r3 = (-1) → wp_Text_fail (xqi (fun r5 u4 => Q (.inl (some (.int r5))) u4) (fun n u => Q (.inr n) u)) u2 5 (xi u2 1 10)))) (fun n u => Q (.inr n) u)) σ ) ∧ (¬ a1 < 0 → (vp_in a1 16 ∧ (((xi σ 29 a1.toNatClampNeg) = 0 → (∀ x6 : Int32, x6 = a1 + (-1) → w_Reader_symbolTerm_7 Q n x6 σ)) ∧ (¬ (xi σ 29 a1.toNatClampNeg) = 0 → (vp_in a1 16 ∧ (vp_in a1 16 ∧ wp_Text_isSame (xqi (fun r8 u7 => ((r8 = 0 → (∀ x9 : Int32, x9 = a1 + (-1) → w_Reader_symbolTerm_7 Q n x9 u7)) ∧ (¬ r8 = 0 → (vp_in a1 16 ∧ Q (.inl (some (.int (xi u7 28 a1.toNatClampNeg)))) u7)))) (fun n u => Q (.inr n) u)) σ (xi σ 26 a1.toNatClampNeg) (xi σ 27 a1.toNatClampNeg))))))))
def wp_Reader_symbolTerm (Q : xO → xS → Prop) (σ : xS)  : Prop :=
  (∀ x1 : Int32, x1 = ((xi σ 24 9) - 1) → ∃ m, w_Reader_symbolTerm_7 Q m x1 σ)
set_option maxRecDepth 20000 in
theorem sw_Reader_symbolTerm_7 {γ : xG1} {d b0 : Nat} {Q : xO → xS → Prop} : ∀ (n : Nat) (a1 : Int32) (σ : xS), w_Reader_symbolTerm_7 Q n a1 σ → xJ (SHP, γ) Y_Reader_symbolTerm (d + 10) b0 7 [(0, .ref 24), (1, .int a1)] [] σ Q := by
  intro n
  induction n with
  | zero => intro a1 σ h; exact h.elim
  | succ n ih =>
    intro a1 σ h
    refine xJ.iload_n (o_Reader_symbolTerm 5 rfl) rfl ?_
    refine xJ.if_lt (tgt := 55) (o_Reader_symbolTerm 6 rfl) (by decide) (fun z => ?_) (fun z => ?_)
    · replace h := h.1 z
      refine xJ.aload_n (o_Reader_symbolTerm 31 rfl) rfl ?_
      refine xJ.getfield (o_Reader_symbolTerm 32 rfl) f_Reader_32 rfl rfl ?_
      refine xJ.aload_n (o_Reader_symbolTerm 33 rfl) rfl ?_
      refine xJ.getfield (o_Reader_symbolTerm 34 rfl) f_Reader_28 rfl rfl ?_
      refine xJ.callV (Y' := Y_Book_findName) (o_Reader_symbolTerm 35 rfl) m_Reader_146 y_Book_findName im_Book_findName se_Book_findName rfl rfl (s_Book_findName h) rfl rfl (Nat.le_of_ble_eq_true rfl) (fun _ hx => by cases hx) (fun v u q => ?_) (fun n u q => q)
      obtain ⟨r, rfl, h⟩ := xqi_get q
      refine xJ.istore_n (o_Reader_symbolTerm 36 rfl) (by decide) ?_
      refine xJ.iload_n (o_Reader_symbolTerm 37 rfl) rfl ?_
      refine xJ.iconst (v := (-1)) (o_Reader_symbolTerm 38 rfl) (by decide) ?_
      refine xJ.icmp_ne (tgt := 90) (o_Reader_symbolTerm 39 rfl) (by decide) (fun z => ?_) (fun z => ?_)
      · replace h := h.1 z
        refine xJ.aload_n (o_Reader_symbolTerm 48 rfl) rfl ?_
        refine xJ.getfield (o_Reader_symbolTerm 49 rfl) f_Reader_32 rfl rfl ?_
        refine xJ.getfield (o_Reader_symbolTerm 50 rfl) f_Reader_189 rfl rfl ?_
        refine xJ.iload_n (o_Reader_symbolTerm 51 rfl) rfl ?_
        refine xJ.iaload (o_Reader_symbolTerm 52 rfl) rfl h.1 ?_
        replace h := h.2
        exact xJ.ireturn (o_Reader_symbolTerm 53 rfl) rfl h
      · replace h := h.2 z
        refine xJ.aload_n (o_Reader_symbolTerm 40 rfl) rfl ?_
        refine xJ.getfield (o_Reader_symbolTerm 41 rfl) f_Reader_28 rfl rfl ?_
        refine xJ.iconst (v := 5) (o_Reader_symbolTerm 42 rfl) (by decide) ?_
        refine xJ.aload_n (o_Reader_symbolTerm 43 rfl) rfl ?_
        refine xJ.getfield (o_Reader_symbolTerm 44 rfl) f_Reader_28 rfl rfl ?_
        refine xJ.getfield (o_Reader_symbolTerm 45 rfl) f_Reader_103 rfl rfl ?_
        refine xJ.callV (Y' := Y_Text_fail) (o_Reader_symbolTerm 46 rfl) m_Reader_136 y_Text_fail im_Text_fail se_Text_fail rfl rfl (s_Text_fail h) rfl rfl (Nat.le_of_ble_eq_true rfl) (fun _ hx => by cases hx) (fun v u q => ?_) (fun n u q => q)
        obtain ⟨r, rfl, h⟩ := xqi_get q
        refine xJ.goto (tgt := 99) (o_Reader_symbolTerm 47 rfl) (by decide) ?_
        exact xJ.ireturn (o_Reader_symbolTerm 53 rfl) rfl h
    · replace h := h.2 z
      refine xJ.aload_n (o_Reader_symbolTerm 7 rfl) rfl ?_
      refine xJ.getfield (o_Reader_symbolTerm 8 rfl) f_Reader_24 rfl rfl ?_
      refine xJ.iload_n (o_Reader_symbolTerm 9 rfl) rfl ?_
      refine xJ.zaload (o_Reader_symbolTerm 10 rfl) rfl h.1 ?_
      replace h := h.2
      refine xJ.if_eq (tgt := 49) (o_Reader_symbolTerm 11 rfl) (by decide) (fun z => ?_) (fun z => ?_)
      · replace h := h.1 z
        refine xJ.iincC (w := (-1)) (o_Reader_symbolTerm 29 rfl) rfl (by decide) (by decide) ?_
        replace h := h _ rfl
        refine xJ.goto (tgt := 7) (o_Reader_symbolTerm 30 rfl) (by decide) ?_
        exact xJ.lvs (by exact ⟨rfl, rfl, trivial⟩) (ih _ _ h)
      · replace h := h.2 z
        refine xJ.aload_n (o_Reader_symbolTerm 12 rfl) rfl ?_
        refine xJ.getfield (o_Reader_symbolTerm 13 rfl) f_Reader_28 rfl rfl ?_
        refine xJ.aload_n (o_Reader_symbolTerm 14 rfl) rfl ?_
        refine xJ.getfield (o_Reader_symbolTerm 15 rfl) f_Reader_15 rfl rfl ?_
        refine xJ.iload_n (o_Reader_symbolTerm 16 rfl) rfl ?_
        refine xJ.iaload (o_Reader_symbolTerm 17 rfl) rfl h.1 ?_
        replace h := h.2
        refine xJ.aload_n (o_Reader_symbolTerm 18 rfl) rfl ?_
        refine xJ.getfield (o_Reader_symbolTerm 19 rfl) f_Reader_18 rfl rfl ?_
        refine xJ.iload_n (o_Reader_symbolTerm 20 rfl) rfl ?_
        refine xJ.iaload (o_Reader_symbolTerm 21 rfl) rfl h.1 ?_
        replace h := h.2
        refine xJ.callV (Y' := Y_Text_isSame) (o_Reader_symbolTerm 22 rfl) m_Reader_185 y_Text_isSame im_Text_isSame se_Text_isSame rfl rfl (s_Text_isSame h) rfl rfl (Nat.le_of_ble_eq_true rfl) (fun _ hx => by cases hx) (fun v u q => ?_) (fun n u q => q)
        obtain ⟨r, rfl, h⟩ := xqi_get q
        refine xJ.if_eq (tgt := 49) (o_Reader_symbolTerm 23 rfl) (by decide) (fun z => ?_) (fun z => ?_)
        · replace h := h.1 z
          refine xJ.iincC (w := (-1)) (o_Reader_symbolTerm 29 rfl) rfl (by decide) (by decide) ?_
          replace h := h _ rfl
          refine xJ.goto (tgt := 7) (o_Reader_symbolTerm 30 rfl) (by decide) ?_
          exact xJ.lvs (by exact ⟨rfl, rfl, trivial⟩) (ih _ _ h)
        · replace h := h.2 z
          refine xJ.aload_n (o_Reader_symbolTerm 24 rfl) rfl ?_
          refine xJ.getfield (o_Reader_symbolTerm 25 rfl) f_Reader_21 rfl rfl ?_
          refine xJ.iload_n (o_Reader_symbolTerm 26 rfl) rfl ?_
          refine xJ.iaload (o_Reader_symbolTerm 27 rfl) rfl h.1 ?_
          replace h := h.2
          exact xJ.ireturn (o_Reader_symbolTerm 28 rfl) rfl h
set_option maxRecDepth 20000 in
theorem s_Reader_symbolTerm {γ : xG1} {d : Nat} {Q : xO → xS → Prop} {σ : xS}  (h : wp_Reader_symbolTerm Q σ ) : xM (SHP, γ) Y_Reader_symbolTerm (d + 10) [.ref 24] σ Q := by
  refine xM.of (by decide) (Nat.le_of_ble_eq_true rfl) ?_
  refine xJ.aload_n (o_Reader_symbolTerm 0 rfl) rfl ?_
  refine xJ.getfield (o_Reader_symbolTerm 1 rfl) f_Reader_55 rfl rfl ?_
  refine xJ.iconst (v := 1) (o_Reader_symbolTerm 2 rfl) (by decide) ?_
  refine xJ.isub (o_Reader_symbolTerm 3 rfl) ?_
  refine xJ.istore_n (o_Reader_symbolTerm 4 rfl) (by decide) ?_
  replace h := h _ rfl
  obtain ⟨m, h⟩ := h
  exact xJ.lvs (by exact ⟨rfl, rfl, trivial⟩) (sw_Reader_symbolTerm_7 m _ _ h)
theorem sc_Reader_term_7 {x : Int32} {P : Nat → Prop} (k0 : x = 0 → P 137) (k1 : x = 3 ∨ x = 4 → P 106) (k2 : x = 5 → P 44) (kd : ¬ x = 0 ∧ ¬ x = 3 ∧ ¬ x = 4 ∧ ¬ x = 5 → P 142) : ∃ t : Nat, xdst 7 135 0 5 #[130, 135, 135, 99, 99, 37] x = (t : Int) ∧ P t := by
  by_cases h0_0 : x = 0
  · subst h0_0; exact ⟨137, by decide, k0 (rfl)⟩
  by_cases h1_0 : x = 3
  · subst h1_0; exact ⟨106, by decide, k1 (Or.inl rfl)⟩
  by_cases h1_1 : x = 4
  · subst h1_1; exact ⟨106, by decide, k1 (Or.inr (rfl))⟩
  by_cases h2_0 : x = 5
  · subst h2_0; exact ⟨44, by decide, k2 (rfl)⟩
  have nh0_0 := lv_neT h0_0 (show (0 : Int32).toInt = 0 by decide)
  have nh1_0 := lv_neT h1_0 (show (3 : Int32).toInt = 3 by decide)
  have nh1_1 := lv_neT h1_1 (show (4 : Int32).toInt = 4 by decide)
  have nh2_0 := lv_neT h2_0 (show (5 : Int32).toInt = 5 by decide)
  refine ⟨142, ?_, kd ⟨h0_0, h1_0, h1_1, h2_0⟩⟩
  by_cases d1 : x = 1
  · subst d1; decide
  by_cases d2 : x = 2
  · subst d2; decide
  have nd1 := lv_neT d1 (show (1 : Int32).toInt = 1 by decide)
  have nd2 := lv_neT d2 (show (2 : Int32).toInt = 2 by decide)
  exact xdst_out (by omega) rfl
def w_Reader_term_97 (Q : xO → xS → Prop) (t1 : Int32) (t2 : Int32) (t3 : Int32) (t4 : Int32) (t5 : Int64) (σ : xS) : Prop :=
  wp_Reader_make (xqi (fun r10 u9 => Q (.inl (some (.int r10))) u9) (fun n u => Q (.inr n) u)) σ t1 t2 t3 t4 t5
def w_Reader_term_68 (Q : xO → xS → Prop) (σ : xS) : Prop :=
  ((¬ (xi σ 1 12) = 7 → w_Reader_term_97 Q (xi σ 1 10) 48 0 1 0 σ) ∧ ((xi σ 1 12) = 7 → w_Reader_term_97 Q (xi σ 1 10) 48 0 1 1 σ))
def wp_Reader_term : Nat → (xO → xS → Prop) → xS → Prop
  | 0 => fun _ _ => False
  | n + 1 => fun Q σ =>
    (((xi σ 1 9) = 0 → wp_Reader_bracketTerm (wp_Reader_term n) (xqi (fun r2 u1 => Q (.inl (some (.int r2))) u1) (fun n u => Q (.inr n) u)) σ ) ∧ ((xi σ 1 9) = 3 ∨ (xi σ 1 9) = 4 → wp_Text_constantWidth (xqi (fun r4 u3 => wp_Text_constant (xql (fun r6 u5 => wp_Reader_make (xqi (fun r8 u7 => Q (.inl (some (.int r8))) u7) (fun n u => Q (.inr n) u)) u5 (xi u3 1 10) 48 r4 r4 r6) (fun n u => Q (.inr n) u)) u3 ) (fun n u => Q (.inr n) u)) σ ) ∧ ((xi σ 1 9) = 5 → (((xi σ 1 12) = 7 → w_Reader_term_68 Q  σ) ∧ (¬ (xi σ 1 12) = 7 → ((¬ (xi σ 1 12) = 8 → wp_Reader_symbolTerm (xqi (fun r12 u11 => Q (.inl (some (.int r12))) u11) (fun n u => Q (.inr n) u)) σ ) ∧ ((xi σ 1 12) = 8 → w_Reader_term_68 Q  σ))))) ∧ (¬ (xi σ 1 9) = 0 ∧ ¬ (xi σ 1 9) = 3 ∧ ¬ (xi σ 1 9) = 4 ∧ ¬ (xi σ 1 9) = 5 → wp_Text_failHere (xqi (fun r14 u13 => Q (.inl (some (.int r14))) u13) (fun n u => Q (.inr n) u)) σ ))
set_option maxRecDepth 20000 in
theorem sw_Reader_term_97 {γ : xG1} {d b0 : Nat} {Q : xO → xS → Prop} {t1 : Int32} {t2 : Int32} {t3 : Int32} {t4 : Int32} {t5 : Int64} {σ : xS} (h : w_Reader_term_97 Q t1 t2 t3 t4 t5 σ) : xJ (SHP, γ) Y_Reader_term (d + 24) b0 97 [] [.long t5, .int t4, .int t3, .int t2, .int t1, .ref 24] σ Q := by
  refine xJ.callV (Y' := Y_Reader_make) (o_Reader_term 29 rfl) m_Reader_118 y_Reader_make im_Reader_make se_Reader_make rfl rfl (s_Reader_make h) rfl rfl (Nat.le_of_ble_eq_true rfl) (fun _ hx => by cases hx) (fun v u q => ?_) (fun n u q => q)
  obtain ⟨r, rfl, h⟩ := xqi_get q
  exact xJ.ireturn (o_Reader_term 30 rfl) rfl h
set_option maxRecDepth 20000 in
theorem sw_Reader_term_68 {γ : xG1} {d b0 : Nat} {Q : xO → xS → Prop} {σ : xS} (h : w_Reader_term_68 Q  σ) : xJ (SHP, γ) Y_Reader_term (d + 24) b0 68 [(0, .ref 24)] [] σ Q := by
  refine xJ.aload_n (o_Reader_term 14 rfl) rfl ?_
  refine xJ.aload_n (o_Reader_term 15 rfl) rfl ?_
  refine xJ.getfield (o_Reader_term 16 rfl) f_Reader_28 rfl rfl ?_
  refine xJ.getfield (o_Reader_term 17 rfl) f_Reader_103 rfl rfl ?_
  refine xJ.bipush (v := 48) (o_Reader_term 18 rfl) (by decide) ?_
  refine xJ.iconst (v := 0) (o_Reader_term 19 rfl) (by decide) ?_
  refine xJ.iconst (v := 1) (o_Reader_term 20 rfl) (by decide) ?_
  refine xJ.aload_n (o_Reader_term 21 rfl) rfl ?_
  refine xJ.getfield (o_Reader_term 22 rfl) f_Reader_28 rfl rfl ?_
  refine xJ.getfield (o_Reader_term 23 rfl) f_Reader_82 rfl rfl ?_
  refine xJ.bipush (v := 7) (o_Reader_term 24 rfl) (by decide) ?_
  refine xJ.icmp_ne (tgt := 96) (o_Reader_term 25 rfl) (by decide) (fun z => ?_) (fun z => ?_)
  · replace h := h.1 z
    refine xJ.lconst (v := 0) (o_Reader_term 28 rfl) (by decide) ?_
    exact xJ.lvs (by exact trivial) (sw_Reader_term_97 h)
  · replace h := h.2 z
    refine xJ.lconst (v := 1) (o_Reader_term 26 rfl) (by decide) ?_
    refine xJ.goto (tgt := 97) (o_Reader_term 27 rfl) (by decide) ?_
    exact xJ.lvs (by exact trivial) (sw_Reader_term_97 h)
set_option maxRecDepth 20000 in
theorem s_Reader_term {γ : xG1} : ∀ (n : Nat) {Q : xO → xS → Prop} {σ : xS} (e : Nat), 4 * n + 20 ≤ e → wp_Reader_term n Q σ → xM (SHP, γ) Y_Reader_term e [.ref 24] σ Q := by
  intro n
  induction n with
  | zero => intro Q σ e he h; exact h.elim
  | succ n ih =>
    intro Q σ e he h
    obtain ⟨d, rfl⟩ : ∃ d, e = d + 24 := ⟨e - 24, by omega⟩
    have hT : ∀ Q σ, wp_Reader_term n Q σ → ∀ e, d + 20 ≤ e → xM (SHP, γ) Y_Reader_term e [.ref 24] σ Q := fun Q σ hz e2 he2 => ih e2 (by omega) hz
    refine xM.of (by decide) (Nat.le_of_ble_eq_true rfl) ?_
    refine xJ.aload_n (o_Reader_term 0 rfl) rfl ?_
    refine xJ.getfield (o_Reader_term 1 rfl) f_Reader_28 rfl rfl ?_
    refine xJ.getfield (o_Reader_term 2 rfl) f_Reader_97 rfl rfl ?_
    refine xJ.tsw (o_Reader_term 3 rfl) (by decide) (sc_Reader_term_7 (fun z => ?_) (fun z => ?_) (fun z => ?_) (fun z => ?_))
    · replace h := h.1 z
      refine xJ.aload_n (o_Reader_term 50 rfl) rfl ?_
      refine xJ.callV (Y' := Y_Reader_bracketTerm) (o_Reader_term 51 rfl) m_Reader_182 y_Reader_bracketTerm im_Reader_bracketTerm se_Reader_bracketTerm rfl rfl (s_Reader_bracketTerm (fun _ _ hz e he => hT _ _ hz e (by omega)) h) rfl rfl (Nat.le_of_ble_eq_true rfl) (fun _ hx => by cases hx) (fun v u q => ?_) (fun n u q => q)
      obtain ⟨r, rfl, h⟩ := xqi_get q
      exact xJ.ireturn (o_Reader_term 52 rfl) rfl h
    · replace h := h.2.1 z
      refine xJ.aload_n (o_Reader_term 34 rfl) rfl ?_
      refine xJ.getfield (o_Reader_term 35 rfl) f_Reader_28 rfl rfl ?_
      refine xJ.callV (Y' := Y_Text_constantWidth) (o_Reader_term 36 rfl) m_Reader_176 y_Text_constantWidth im_Text_constantWidth se_Text_constantWidth rfl rfl (s_Text_constantWidth h) rfl rfl (Nat.le_of_ble_eq_true rfl) (fun _ hx => by cases hx) (fun v u q => ?_) (fun n u q => q)
      obtain ⟨r, rfl, h⟩ := xqi_get q
      refine xJ.istore_n (o_Reader_term 37 rfl) (by decide) ?_
      refine xJ.aload_n (o_Reader_term 38 rfl) rfl ?_
      refine xJ.aload_n (o_Reader_term 39 rfl) rfl ?_
      refine xJ.getfield (o_Reader_term 40 rfl) f_Reader_28 rfl rfl ?_
      refine xJ.getfield (o_Reader_term 41 rfl) f_Reader_103 rfl rfl ?_
      refine xJ.bipush (v := 48) (o_Reader_term 42 rfl) (by decide) ?_
      refine xJ.iload_n (o_Reader_term 43 rfl) rfl ?_
      refine xJ.iload_n (o_Reader_term 44 rfl) rfl ?_
      refine xJ.aload_n (o_Reader_term 45 rfl) rfl ?_
      refine xJ.getfield (o_Reader_term 46 rfl) f_Reader_28 rfl rfl ?_
      refine xJ.callV (Y' := Y_Text_constant) (o_Reader_term 47 rfl) m_Reader_179 y_Text_constant im_Text_constant se_Text_constant rfl rfl (s_Text_constant h) rfl rfl (Nat.le_of_ble_eq_true rfl) (fun _ hx => by cases hx) (fun v u q => ?_) (fun n u q => q)
      obtain ⟨r, rfl, h⟩ := xql_get q
      refine xJ.callV (Y' := Y_Reader_make) (o_Reader_term 48 rfl) m_Reader_118 y_Reader_make im_Reader_make se_Reader_make rfl rfl (s_Reader_make h) rfl rfl (Nat.le_of_ble_eq_true rfl) (fun _ hx => by cases hx) (fun v u q => ?_) (fun n u q => q)
      obtain ⟨r, rfl, h⟩ := xqi_get q
      exact xJ.ireturn (o_Reader_term 49 rfl) rfl h
    · replace h := h.2.2.1 z
      refine xJ.aload_n (o_Reader_term 4 rfl) rfl ?_
      refine xJ.getfield (o_Reader_term 5 rfl) f_Reader_28 rfl rfl ?_
      refine xJ.getfield (o_Reader_term 6 rfl) f_Reader_82 rfl rfl ?_
      refine xJ.bipush (v := 7) (o_Reader_term 7 rfl) (by decide) ?_
      refine xJ.icmp_eq (tgt := 68) (o_Reader_term 8 rfl) (by decide) (fun z => ?_) (fun z => ?_)
      · replace h := h.1 z
        exact xJ.lvs (by exact ⟨rfl, trivial⟩) (sw_Reader_term_68 h)
      · replace h := h.2 z
        refine xJ.aload_n (o_Reader_term 9 rfl) rfl ?_
        refine xJ.getfield (o_Reader_term 10 rfl) f_Reader_28 rfl rfl ?_
        refine xJ.getfield (o_Reader_term 11 rfl) f_Reader_82 rfl rfl ?_
        refine xJ.bipush (v := 8) (o_Reader_term 12 rfl) (by decide) ?_
        refine xJ.icmp_ne (tgt := 101) (o_Reader_term 13 rfl) (by decide) (fun z => ?_) (fun z => ?_)
        · replace h := h.1 z
          refine xJ.aload_n (o_Reader_term 31 rfl) rfl ?_
          refine xJ.callV (Y' := Y_Reader_symbolTerm) (o_Reader_term 32 rfl) m_Reader_173 y_Reader_symbolTerm im_Reader_symbolTerm se_Reader_symbolTerm rfl rfl (s_Reader_symbolTerm h) rfl rfl (Nat.le_of_ble_eq_true rfl) (fun _ hx => by cases hx) (fun v u q => ?_) (fun n u q => q)
          obtain ⟨r, rfl, h⟩ := xqi_get q
          exact xJ.ireturn (o_Reader_term 33 rfl) rfl h
        · replace h := h.2 z
          exact xJ.lvs (by exact ⟨rfl, trivial⟩) (sw_Reader_term_68 h)
    · replace h := h.2.2.2 z
      refine xJ.aload_n (o_Reader_term 53 rfl) rfl ?_
      refine xJ.getfield (o_Reader_term 54 rfl) f_Reader_28 rfl rfl ?_
      refine xJ.callV (Y' := Y_Text_failHere) (o_Reader_term 55 rfl) m_Reader_94 y_Text_failHere im_Text_failHere se_Text_failHere rfl rfl (s_Text_failHere h) rfl rfl (Nat.le_of_ble_eq_true rfl) (fun _ hx => by cases hx) (fun v u q => ?_) (fun n u q => q)
      obtain ⟨r, rfl, h⟩ := xqi_get q
      exact xJ.ireturn (o_Reader_term 56 rfl) rfl h
def w_Reader_define_83 (Q : xO → xS → Prop) (a1 : Int32) (a2 : Int32) (a5 : Int32) (σ : xS) : Prop :=
  wp_Book_addName (xqv (fun u16 => Q (.inl none) u16) (fun n u => Q (.inr n) u)) σ a1 a2 a5
def wp_Reader_define (Q : xO → xS → Prop) (σ : xS)  : Prop :=
  wp_Reader_expectNewName (xqv (fun u1 => (∀ x3 : Int32, x3 = (xi u1 1 10) → (∀ x4 : Int32, x4 = (xi u1 1 11) → wp_Reader_expect (xqv (fun u5 => wp_Reader_expect (xqv (fun u7 => wp_Reader_sort (xqi (fun r10 u9 => wp_Text_next (xqv (fun u11 => (∀ x13 : Int32, x13 = (xi u11 1 10) → (∃ m, m ≤ 61 ∧ wp_Reader_term m (xqi (fun r15 u14 => (vp_in r15 2000 ∧ (((xi u14 8 r15.toNatClampNeg) = r10 → w_Reader_define_83 Q x3 x4 r15 u14) ∧ (¬ (xi u14 8 r15.toNatClampNeg) = r10 → wp_Text_fail (xqi (fun r19 u18 => w_Reader_define_83 Q x3 x4 r15 u18) (fun n u => Q (.inr n) u)) u14 9 x13)))) (fun n u => Q (.inr n) u)) u11 ))) (fun n u => Q (.inr n) u)) u9 ) (fun n u => Q (.inr n) u)) u7 ) (fun n u => Q (.inr n) u)) u5 1) (fun n u => Q (.inr n) u)) u1 0))) (fun n u => Q (.inr n) u)) σ 
set_option maxRecDepth 20000 in
theorem sw_Reader_define_83 {γ : xG1} {d b0 : Nat} {Q : xO → xS → Prop} {a1 : Int32} {a2 : Int32} {a5 : Int32} {σ : xS} (h : w_Reader_define_83 Q a1 a2 a5 σ) : xJ (SHP, γ) Y_Reader_define (d + 265) b0 83 [(0, .ref 24), (1, .int a1), (2, .int a2), (5, .int a5)] [] σ Q := by
  refine xJ.aload_n (o_Reader_define 42 rfl) rfl ?_
  refine xJ.getfield (o_Reader_define 43 rfl) f_Reader_32 rfl rfl ?_
  refine xJ.aload_n (o_Reader_define 44 rfl) rfl ?_
  refine xJ.getfield (o_Reader_define 45 rfl) f_Reader_28 rfl rfl ?_
  refine xJ.iload_n (o_Reader_define 46 rfl) rfl ?_
  refine xJ.iload_n (o_Reader_define 47 rfl) rfl ?_
  refine xJ.iload (o_Reader_define 48 rfl) rfl ?_
  refine xJ.callV (Y' := Y_Book_addName) (o_Reader_define 49 rfl) m_Reader_125 y_Book_addName im_Book_addName se_Book_addName rfl rfl (s_Book_addName h) rfl rfl (Nat.le_of_ble_eq_true rfl) (fun _ hx => by cases hx) (fun v u q => ?_) (fun n u q => q)
  obtain ⟨rfl, h⟩ := xqv_get q
  exact xJ.return_ (o_Reader_define 50 rfl) rfl h
set_option maxRecDepth 20000 in
theorem s_Reader_define {γ : xG1} {d : Nat} {Q : xO → xS → Prop} {σ : xS}  (h : wp_Reader_define Q σ ) : xM (SHP, γ) Y_Reader_define (d + 265) [.ref 24] σ Q := by
  refine xM.of (by decide) (Nat.le_of_ble_eq_true rfl) ?_
  refine xJ.aload_n (o_Reader_define 0 rfl) rfl ?_
  refine xJ.callV (Y' := Y_Reader_expectNewName) (o_Reader_define 1 rfl) m_Reader_100 y_Reader_expectNewName im_Reader_expectNewName se_Reader_expectNewName rfl rfl (s_Reader_expectNewName h) rfl rfl (Nat.le_of_ble_eq_true rfl) (fun _ hx => by cases hx) (fun v u q => ?_) (fun n u q => q)
  obtain ⟨rfl, h⟩ := xqv_get q
  refine xJ.aload_n (o_Reader_define 2 rfl) rfl ?_
  refine xJ.getfield (o_Reader_define 3 rfl) f_Reader_28 rfl rfl ?_
  refine xJ.getfield (o_Reader_define 4 rfl) f_Reader_103 rfl rfl ?_
  refine xJ.istore_n (o_Reader_define 5 rfl) (by decide) ?_
  replace h := h _ rfl
  refine xJ.aload_n (o_Reader_define 6 rfl) rfl ?_
  refine xJ.getfield (o_Reader_define 7 rfl) f_Reader_28 rfl rfl ?_
  refine xJ.getfield (o_Reader_define 8 rfl) f_Reader_106 rfl rfl ?_
  refine xJ.istore_n (o_Reader_define 9 rfl) (by decide) ?_
  replace h := h _ rfl
  refine xJ.aload_n (o_Reader_define 10 rfl) rfl ?_
  refine xJ.iconst (v := 0) (o_Reader_define 11 rfl) (by decide) ?_
  refine xJ.callV (Y' := Y_Reader_expect) (o_Reader_define 12 rfl) m_Reader_75 y_Reader_expect im_Reader_expect se_Reader_expect rfl rfl (s_Reader_expect h) rfl rfl (Nat.le_of_ble_eq_true rfl) (fun _ hx => by cases hx) (fun v u q => ?_) (fun n u q => q)
  obtain ⟨rfl, h⟩ := xqv_get q
  refine xJ.aload_n (o_Reader_define 13 rfl) rfl ?_
  refine xJ.iconst (v := 1) (o_Reader_define 14 rfl) (by decide) ?_
  refine xJ.callV (Y' := Y_Reader_expect) (o_Reader_define 15 rfl) m_Reader_75 y_Reader_expect im_Reader_expect se_Reader_expect rfl rfl (s_Reader_expect h) rfl rfl (Nat.le_of_ble_eq_true rfl) (fun _ hx => by cases hx) (fun v u q => ?_) (fun n u q => q)
  obtain ⟨rfl, h⟩ := xqv_get q
  refine xJ.aload_n (o_Reader_define 16 rfl) rfl ?_
  refine xJ.callV (Y' := Y_Reader_sort) (o_Reader_define 17 rfl) m_Reader_109 y_Reader_sort im_Reader_sort se_Reader_sort rfl rfl (s_Reader_sort h) rfl rfl (Nat.le_of_ble_eq_true rfl) (fun _ hx => by cases hx) (fun v u q => ?_) (fun n u q => q)
  obtain ⟨r, rfl, h⟩ := xqi_get q
  refine xJ.istore_n (o_Reader_define 18 rfl) (by decide) ?_
  refine xJ.aload_n (o_Reader_define 19 rfl) rfl ?_
  refine xJ.getfield (o_Reader_define 20 rfl) f_Reader_28 rfl rfl ?_
  refine xJ.callV (Y' := Y_Text_next) (o_Reader_define 21 rfl) m_Reader_79 y_Text_next im_Text_next se_Text_next rfl rfl (s_Text_next h) rfl rfl (Nat.le_of_ble_eq_true rfl) (fun _ hx => by cases hx) (fun v u q => ?_) (fun n u q => q)
  obtain ⟨rfl, h⟩ := xqv_get q
  refine xJ.aload_n (o_Reader_define 22 rfl) rfl ?_
  refine xJ.getfield (o_Reader_define 23 rfl) f_Reader_28 rfl rfl ?_
  refine xJ.getfield (o_Reader_define 24 rfl) f_Reader_103 rfl rfl ?_
  refine xJ.istore (o_Reader_define 25 rfl) (by decide) ?_
  replace h := h _ rfl
  refine xJ.aload_n (o_Reader_define 26 rfl) rfl ?_
  obtain ⟨m, hm, h⟩ := h
  refine xJ.callV (Y' := Y_Reader_term) (o_Reader_define 27 rfl) m_Reader_129 y_Reader_term im_Reader_term se_Reader_term rfl rfl (s_Reader_term m _ (by omega) h) rfl rfl (Nat.le_of_ble_eq_true rfl) (fun _ hx => by cases hx) (fun v u q => ?_) (fun n u q => q)
  obtain ⟨r, rfl, h⟩ := xqi_get q
  refine xJ.istore (o_Reader_define 28 rfl) (by decide) ?_
  refine xJ.aload_n (o_Reader_define 29 rfl) rfl ?_
  refine xJ.getfield (o_Reader_define 30 rfl) f_Reader_42 rfl rfl ?_
  refine xJ.getfield (o_Reader_define 31 rfl) f_Reader_132 rfl rfl ?_
  refine xJ.iload (o_Reader_define 32 rfl) rfl ?_
  refine xJ.iaload (o_Reader_define 33 rfl) rfl h.1 ?_
  replace h := h.2
  refine xJ.iload_n (o_Reader_define 34 rfl) rfl ?_
  refine xJ.icmp_eq (tgt := 83) (o_Reader_define 35 rfl) (by decide) (fun z => ?_) (fun z => ?_)
  · replace h := h.1 z
    exact xJ.lvs (by exact ⟨rfl, rfl, rfl, rfl, trivial⟩) (sw_Reader_define_83 h)
  · replace h := h.2 z
    refine xJ.aload_n (o_Reader_define 36 rfl) rfl ?_
    refine xJ.getfield (o_Reader_define 37 rfl) f_Reader_28 rfl rfl ?_
    refine xJ.bipush (v := 9) (o_Reader_define 38 rfl) (by decide) ?_
    refine xJ.iload (o_Reader_define 39 rfl) rfl ?_
    refine xJ.callV (Y' := Y_Text_fail) (o_Reader_define 40 rfl) m_Reader_136 y_Text_fail im_Text_fail se_Text_fail rfl rfl (s_Text_fail h) rfl rfl (Nat.le_of_ble_eq_true rfl) (fun _ hx => by cases hx) (fun v u q => ?_) (fun n u q => q)
    obtain ⟨r, rfl, h⟩ := xqi_get q
    refine xJ.pop (o_Reader_define 41 rfl) rfl ?_
    exact xJ.lvs (by exact ⟨rfl, rfl, rfl, rfl, trivial⟩) (sw_Reader_define_83 h)
def w_Reader_affirm_43 (Q : xO → xS → Prop) (a1 : Int32) (a2 : Int32) (σ : xS) : Prop :=
  (((xi σ 5 10) < 500 → (vp_in (xi σ 5 10) 500 ∧ (∀ s6 : xS, s6 = xpi σ 22 (xi σ 5 10).toNatClampNeg a2 → (∀ s7 : xS, s7 = xpi s6 5 10 ((xi s6 5 10) + 1) → Q (.inl none) s7)))) ∧ (¬ (xi σ 5 10) < 500 → wp_Text_fail (xqi (fun r9 u8 => Q (.inl none) u8) (fun n u => Q (.inr n) u)) σ 11 a1))
def wp_Reader_affirm (Q : xO → xS → Prop) (σ : xS)  : Prop :=
  wp_Text_next (xqv (fun u1 => (∀ x3 : Int32, x3 = (xi u1 1 10) → (∃ m, m ≤ 61 ∧ wp_Reader_term m (xqi (fun r5 u4 => (vp_in r5 2000 ∧ (((xi u4 8 r5.toNatClampNeg) = 0 → w_Reader_affirm_43 Q x3 r5 u4) ∧ (¬ (xi u4 8 r5.toNatClampNeg) = 0 → wp_Text_fail (xqi (fun r11 u10 => w_Reader_affirm_43 Q x3 r5 u10) (fun n u => Q (.inr n) u)) u4 9 x3)))) (fun n u => Q (.inr n) u)) u1 ))) (fun n u => Q (.inr n) u)) σ 
set_option maxRecDepth 20000 in
theorem sw_Reader_affirm_43 {γ : xG1} {d b0 : Nat} {Q : xO → xS → Prop} {a1 : Int32} {a2 : Int32} {σ : xS} (h : w_Reader_affirm_43 Q a1 a2 σ) : xJ (SHP, γ) Y_Reader_affirm (d + 265) b0 43 [(0, .ref 24), (1, .int a1), (2, .int a2)] [] σ Q := by
  refine xJ.aload_n (o_Reader_affirm 22 rfl) rfl ?_
  refine xJ.getfield (o_Reader_affirm 23 rfl) f_Reader_32 rfl rfl ?_
  refine xJ.getfield (o_Reader_affirm 24 rfl) f_Reader_140 rfl rfl ?_
  refine xJ.sipush (v := 500) (o_Reader_affirm 25 rfl) (by decide) ?_
  refine xJ.icmp_lt (tgt := 68) (o_Reader_affirm 26 rfl) (by decide) (fun z => ?_) (fun z => ?_)
  · replace h := h.1 z
    refine xJ.aload_n (o_Reader_affirm 34 rfl) rfl ?_
    refine xJ.getfield (o_Reader_affirm 35 rfl) f_Reader_32 rfl rfl ?_
    refine xJ.getfield (o_Reader_affirm 36 rfl) f_Reader_143 rfl rfl ?_
    refine xJ.aload_n (o_Reader_affirm 37 rfl) rfl ?_
    refine xJ.getfield (o_Reader_affirm 38 rfl) f_Reader_32 rfl rfl ?_
    refine xJ.getfield (o_Reader_affirm 39 rfl) f_Reader_140 rfl rfl ?_
    refine xJ.iload_n (o_Reader_affirm 40 rfl) rfl ?_
    refine xJ.iastore (o_Reader_affirm 41 rfl) rfl h.1 ?_
    replace h := h.2
    replace h := h _ rfl
    refine xJ.aload_n (o_Reader_affirm 42 rfl) rfl ?_
    refine xJ.getfield (o_Reader_affirm 43 rfl) f_Reader_32 rfl rfl ?_
    refine xJ.dup (o_Reader_affirm 44 rfl) rfl ?_
    refine xJ.getfield (o_Reader_affirm 45 rfl) f_Reader_140 rfl rfl ?_
    refine xJ.iconst (v := 1) (o_Reader_affirm 46 rfl) (by decide) ?_
    refine xJ.iadd (o_Reader_affirm 47 rfl) ?_
    refine xJ.putI (o_Reader_affirm 48 rfl) f_Reader_140 rfl rfl rfl ?_
    replace h := h _ rfl
    exact xJ.return_ (o_Reader_affirm 49 rfl) rfl h
  · replace h := h.2 z
    refine xJ.aload_n (o_Reader_affirm 27 rfl) rfl ?_
    refine xJ.getfield (o_Reader_affirm 28 rfl) f_Reader_28 rfl rfl ?_
    refine xJ.bipush (v := 11) (o_Reader_affirm 29 rfl) (by decide) ?_
    refine xJ.iload_n (o_Reader_affirm 30 rfl) rfl ?_
    refine xJ.callV (Y' := Y_Text_fail) (o_Reader_affirm 31 rfl) m_Reader_136 y_Text_fail im_Text_fail se_Text_fail rfl rfl (s_Text_fail h) rfl rfl (Nat.le_of_ble_eq_true rfl) (fun _ hx => by cases hx) (fun v u q => ?_) (fun n u q => q)
    obtain ⟨r, rfl, h⟩ := xqi_get q
    refine xJ.pop (o_Reader_affirm 32 rfl) rfl ?_
    exact xJ.return_ (o_Reader_affirm 33 rfl) rfl h
set_option maxRecDepth 20000 in
theorem s_Reader_affirm {γ : xG1} {d : Nat} {Q : xO → xS → Prop} {σ : xS}  (h : wp_Reader_affirm Q σ ) : xM (SHP, γ) Y_Reader_affirm (d + 265) [.ref 24] σ Q := by
  refine xM.of (by decide) (Nat.le_of_ble_eq_true rfl) ?_
  refine xJ.aload_n (o_Reader_affirm 0 rfl) rfl ?_
  refine xJ.getfield (o_Reader_affirm 1 rfl) f_Reader_28 rfl rfl ?_
  refine xJ.callV (Y' := Y_Text_next) (o_Reader_affirm 2 rfl) m_Reader_79 y_Text_next im_Text_next se_Text_next rfl rfl (s_Text_next h) rfl rfl (Nat.le_of_ble_eq_true rfl) (fun _ hx => by cases hx) (fun v u q => ?_) (fun n u q => q)
  obtain ⟨rfl, h⟩ := xqv_get q
  refine xJ.aload_n (o_Reader_affirm 3 rfl) rfl ?_
  refine xJ.getfield (o_Reader_affirm 4 rfl) f_Reader_28 rfl rfl ?_
  refine xJ.getfield (o_Reader_affirm 5 rfl) f_Reader_103 rfl rfl ?_
  refine xJ.istore_n (o_Reader_affirm 6 rfl) (by decide) ?_
  replace h := h _ rfl
  refine xJ.aload_n (o_Reader_affirm 7 rfl) rfl ?_
  obtain ⟨m, hm, h⟩ := h
  refine xJ.callV (Y' := Y_Reader_term) (o_Reader_affirm 8 rfl) m_Reader_129 y_Reader_term im_Reader_term se_Reader_term rfl rfl (s_Reader_term m _ (by omega) h) rfl rfl (Nat.le_of_ble_eq_true rfl) (fun _ hx => by cases hx) (fun v u q => ?_) (fun n u q => q)
  obtain ⟨r, rfl, h⟩ := xqi_get q
  refine xJ.istore_n (o_Reader_affirm 9 rfl) (by decide) ?_
  refine xJ.aload_n (o_Reader_affirm 10 rfl) rfl ?_
  refine xJ.getfield (o_Reader_affirm 11 rfl) f_Reader_42 rfl rfl ?_
  refine xJ.getfield (o_Reader_affirm 12 rfl) f_Reader_132 rfl rfl ?_
  refine xJ.iload_n (o_Reader_affirm 13 rfl) rfl ?_
  refine xJ.iaload (o_Reader_affirm 14 rfl) rfl h.1 ?_
  replace h := h.2
  refine xJ.if_eq (tgt := 43) (o_Reader_affirm 15 rfl) (by decide) (fun z => ?_) (fun z => ?_)
  · replace h := h.1 z
    exact xJ.lvs (by exact ⟨rfl, rfl, rfl, trivial⟩) (sw_Reader_affirm_43 h)
  · replace h := h.2 z
    refine xJ.aload_n (o_Reader_affirm 16 rfl) rfl ?_
    refine xJ.getfield (o_Reader_affirm 17 rfl) f_Reader_28 rfl rfl ?_
    refine xJ.bipush (v := 9) (o_Reader_affirm 18 rfl) (by decide) ?_
    refine xJ.iload_n (o_Reader_affirm 19 rfl) rfl ?_
    refine xJ.callV (Y' := Y_Text_fail) (o_Reader_affirm 20 rfl) m_Reader_136 y_Text_fail im_Text_fail se_Text_fail rfl rfl (s_Text_fail h) rfl rfl (Nat.le_of_ble_eq_true rfl) (fun _ hx => by cases hx) (fun v u q => ?_) (fun n u q => q)
    obtain ⟨r, rfl, h⟩ := xqi_get q
    refine xJ.pop (o_Reader_affirm 21 rfl) rfl ?_
    exact xJ.lvs (by exact ⟨rfl, rfl, rfl, trivial⟩) (sw_Reader_affirm_43 h)
theorem sc_Reader_commands_37 {x : Int32} {P : Nat → Prop} (k0 : x = 0 → P 64) (k1 : x = 1 → P 71) (k2 : x = 2 → P 78) (kd : ¬ x = 0 ∧ ¬ x = 1 ∧ ¬ x = 2 → P 85) : ∃ t : Nat, xdst 37 48 0 2 #[27, 34, 41] x = (t : Int) ∧ P t := by
  by_cases h0_0 : x = 0
  · subst h0_0; exact ⟨64, by decide, k0 (rfl)⟩
  by_cases h1_0 : x = 1
  · subst h1_0; exact ⟨71, by decide, k1 (rfl)⟩
  by_cases h2_0 : x = 2
  · subst h2_0; exact ⟨78, by decide, k2 (rfl)⟩
  have nh0_0 := lv_neT h0_0 (show (0 : Int32).toInt = 0 by decide)
  have nh1_0 := lv_neT h1_0 (show (1 : Int32).toInt = 1 by decide)
  have nh2_0 := lv_neT h2_0 (show (2 : Int32).toInt = 2 by decide)
  refine ⟨85, ?_, kd ⟨h0_0, h1_0, h2_0⟩⟩
  exact xdst_out (by omega) rfl
def w_Reader_commands_93 (Q : xO → xS → Prop) (K2 : Int32 → xS → Prop) (a1 : Int32) (σ : xS) : Prop :=
  wp_Reader_expect (xqv (fun u9 => (∀ x11 : Int32, x11 = a1 + 1 → K2 x11 u9)) (fun n u => Q (.inr n) u)) σ 1
def w_Reader_commands_2 (Q : xO → xS → Prop) : Nat → Int32 → xS → Prop
  | 0 => fun _ _ => False
  | n + 1 => fun a1 σ =>
    ((65536 ≤ a1 → Q (.inl (some (.int a1))) σ) ∧ (¬ 65536 ≤ a1 → wp_Text_isOver (xqi (fun r2 u1 => ((¬ r2 = 0 → Q (.inl (some (.int a1))) u1) ∧ (r2 = 0 → wp_Reader_expect (xqv (fun u3 => wp_Text_next (xqv (fun u5 => (((xi u5 1 12) = 0 → wp_Reader_declare (xqv (fun u7 => w_Reader_commands_93 Q (w_Reader_commands_2 Q n) a1 u7) (fun n u => Q (.inr n) u)) u5 ) ∧ ((xi u5 1 12) = 1 → wp_Reader_define (xqv (fun u12 => w_Reader_commands_93 Q (w_Reader_commands_2 Q n) a1 u12) (fun n u => Q (.inr n) u)) u5 ) ∧ ((xi u5 1 12) = 2 → wp_Reader_affirm (xqv (fun u14 => w_Reader_commands_93 Q (w_Reader_commands_2 Q n) a1 u14) (fun n u => Q (.inr n) u)) u5 ) ∧ (¬ (xi u5 1 12) = 0 ∧ ¬ (xi u5 1 12) = 1 ∧ ¬ (xi u5 1 12) = 2 → wp_Text_failHere (xqi (fun r17 u16 => w_Reader_commands_93 Q (w_Reader_commands_2 Q n) a1 u16) (fun n u => Q (.inr n) u)) u5 ))) (fun n u => Q (.inr n) u)) u3 ) (fun n u => Q (.inr n) u)) u1 0))) (fun n u => Q (.inr n) u)) σ ))
def wp_Reader_commands (Q : xO → xS → Prop) (σ : xS)  : Prop :=
  ∃ m, w_Reader_commands_2 Q m 0 σ
set_option maxRecDepth 20000 in
theorem sw_Reader_commands_93 {γ : xG1} {d b0 : Nat} {Q : xO → xS → Prop} {K2 : Int32 → xS → Prop} (hK2 : ∀ a1 σ, K2 a1 σ → xJ (SHP, γ) Y_Reader_commands (d + 266) b0 2 [(0, .ref 24), (1, .int a1)] [] σ Q) {a1 : Int32} {σ : xS} (h : w_Reader_commands_93 Q K2 a1 σ) : xJ (SHP, γ) Y_Reader_commands (d + 266) b0 93 [(0, .ref 24), (1, .int a1)] [] σ Q := by
  refine xJ.aload_n (o_Reader_commands 32 rfl) rfl ?_
  refine xJ.iconst (v := 1) (o_Reader_commands 33 rfl) (by decide) ?_
  refine xJ.callV (Y' := Y_Reader_expect) (o_Reader_commands 34 rfl) m_Reader_75 y_Reader_expect im_Reader_expect se_Reader_expect rfl rfl (s_Reader_expect h) rfl rfl (Nat.le_of_ble_eq_true rfl) (fun _ hx => by cases hx) (fun v u q => ?_) (fun n u q => q)
  obtain ⟨rfl, h⟩ := xqv_get q
  refine xJ.iincC (w := 1) (o_Reader_commands 35 rfl) rfl (by decide) (by decide) ?_
  replace h := h _ rfl
  refine xJ.goto (tgt := 2) (o_Reader_commands 36 rfl) (by decide) ?_
  exact xJ.lvs (by exact ⟨rfl, rfl, trivial⟩) (hK2 _ _ h)
set_option maxRecDepth 20000 in
theorem sw_Reader_commands_2 {γ : xG1} {d b0 : Nat} {Q : xO → xS → Prop} : ∀ (n : Nat) (a1 : Int32) (σ : xS), w_Reader_commands_2 Q n a1 σ → xJ (SHP, γ) Y_Reader_commands (d + 266) b0 2 [(0, .ref 24), (1, .int a1)] [] σ Q := by
  intro n
  induction n with
  | zero => intro a1 σ h; exact h.elim
  | succ n ih =>
    intro a1 σ h
    refine xJ.iload_n (o_Reader_commands 2 rfl) rfl ?_
    refine xJ.ldc (v := 65536) (o_Reader_commands 3 rfl) k_Reader_70 ?_
    refine xJ.icmp_ge (tgt := 104) (o_Reader_commands 4 rfl) (by decide) (fun z => ?_) (fun z => ?_)
    · replace h := h.1 z
      refine xJ.iload_n (o_Reader_commands 37 rfl) rfl ?_
      exact xJ.ireturn (o_Reader_commands 38 rfl) rfl h
    · replace h := h.2 z
      refine xJ.aload_n (o_Reader_commands 5 rfl) rfl ?_
      refine xJ.getfield (o_Reader_commands 6 rfl) f_Reader_28 rfl rfl ?_
      refine xJ.callV (Y' := Y_Text_isOver) (o_Reader_commands 7 rfl) m_Reader_71 y_Text_isOver im_Text_isOver se_Text_isOver rfl rfl (s_Text_isOver h) rfl rfl (Nat.le_of_ble_eq_true rfl) (fun _ hx => by cases hx) (fun v u q => ?_) (fun n u q => q)
      obtain ⟨r, rfl, h⟩ := xqi_get q
      refine xJ.if_ne (tgt := 104) (o_Reader_commands 8 rfl) (by decide) (fun z => ?_) (fun z => ?_)
      · replace h := h.1 z
        refine xJ.iload_n (o_Reader_commands 37 rfl) rfl ?_
        exact xJ.ireturn (o_Reader_commands 38 rfl) rfl h
      · replace h := h.2 z
        refine xJ.aload_n (o_Reader_commands 9 rfl) rfl ?_
        refine xJ.iconst (v := 0) (o_Reader_commands 10 rfl) (by decide) ?_
        refine xJ.callV (Y' := Y_Reader_expect) (o_Reader_commands 11 rfl) m_Reader_75 y_Reader_expect im_Reader_expect se_Reader_expect rfl rfl (s_Reader_expect h) rfl rfl (Nat.le_of_ble_eq_true rfl) (fun _ hx => by cases hx) (fun v u q => ?_) (fun n u q => q)
        obtain ⟨rfl, h⟩ := xqv_get q
        refine xJ.aload_n (o_Reader_commands 12 rfl) rfl ?_
        refine xJ.getfield (o_Reader_commands 13 rfl) f_Reader_28 rfl rfl ?_
        refine xJ.callV (Y' := Y_Text_next) (o_Reader_commands 14 rfl) m_Reader_79 y_Text_next im_Text_next se_Text_next rfl rfl (s_Text_next h) rfl rfl (Nat.le_of_ble_eq_true rfl) (fun _ hx => by cases hx) (fun v u q => ?_) (fun n u q => q)
        obtain ⟨rfl, h⟩ := xqv_get q
        refine xJ.aload_n (o_Reader_commands 15 rfl) rfl ?_
        refine xJ.getfield (o_Reader_commands 16 rfl) f_Reader_28 rfl rfl ?_
        refine xJ.getfield (o_Reader_commands 17 rfl) f_Reader_82 rfl rfl ?_
        refine xJ.tsw (o_Reader_commands 18 rfl) (by decide) (sc_Reader_commands_37 (fun z => ?_) (fun z => ?_) (fun z => ?_) (fun z => ?_))
        · replace h := h.1 z
          refine xJ.aload_n (o_Reader_commands 19 rfl) rfl ?_
          refine xJ.callV (Y' := Y_Reader_declare) (o_Reader_commands 20 rfl) m_Reader_85 y_Reader_declare im_Reader_declare se_Reader_declare rfl rfl (s_Reader_declare h) rfl rfl (Nat.le_of_ble_eq_true rfl) (fun _ hx => by cases hx) (fun v u q => ?_) (fun n u q => q)
          obtain ⟨rfl, h⟩ := xqv_get q
          refine xJ.goto (tgt := 93) (o_Reader_commands 21 rfl) (by decide) ?_
          exact xJ.lvs (by exact ⟨rfl, rfl, trivial⟩) (sw_Reader_commands_93 ih h)
        · replace h := h.2.1 z
          refine xJ.aload_n (o_Reader_commands 22 rfl) rfl ?_
          refine xJ.callV (Y' := Y_Reader_define) (o_Reader_commands 23 rfl) m_Reader_88 y_Reader_define im_Reader_define se_Reader_define rfl rfl (s_Reader_define h) rfl rfl (Nat.le_of_ble_eq_true rfl) (fun _ hx => by cases hx) (fun v u q => ?_) (fun n u q => q)
          obtain ⟨rfl, h⟩ := xqv_get q
          refine xJ.goto (tgt := 93) (o_Reader_commands 24 rfl) (by decide) ?_
          exact xJ.lvs (by exact ⟨rfl, rfl, trivial⟩) (sw_Reader_commands_93 ih h)
        · replace h := h.2.2.1 z
          refine xJ.aload_n (o_Reader_commands 25 rfl) rfl ?_
          refine xJ.callV (Y' := Y_Reader_affirm) (o_Reader_commands 26 rfl) m_Reader_91 y_Reader_affirm im_Reader_affirm se_Reader_affirm rfl rfl (s_Reader_affirm h) rfl rfl (Nat.le_of_ble_eq_true rfl) (fun _ hx => by cases hx) (fun v u q => ?_) (fun n u q => q)
          obtain ⟨rfl, h⟩ := xqv_get q
          refine xJ.goto (tgt := 93) (o_Reader_commands 27 rfl) (by decide) ?_
          exact xJ.lvs (by exact ⟨rfl, rfl, trivial⟩) (sw_Reader_commands_93 ih h)
        · replace h := h.2.2.2 z
          refine xJ.aload_n (o_Reader_commands 28 rfl) rfl ?_
          refine xJ.getfield (o_Reader_commands 29 rfl) f_Reader_28 rfl rfl ?_
          refine xJ.callV (Y' := Y_Text_failHere) (o_Reader_commands 30 rfl) m_Reader_94 y_Text_failHere im_Text_failHere se_Text_failHere rfl rfl (s_Text_failHere h) rfl rfl (Nat.le_of_ble_eq_true rfl) (fun _ hx => by cases hx) (fun v u q => ?_) (fun n u q => q)
          obtain ⟨r, rfl, h⟩ := xqi_get q
          refine xJ.pop (o_Reader_commands 31 rfl) rfl ?_
          exact xJ.lvs (by exact ⟨rfl, rfl, trivial⟩) (sw_Reader_commands_93 ih h)
set_option maxRecDepth 20000 in
theorem s_Reader_commands {γ : xG1} {d : Nat} {Q : xO → xS → Prop} {σ : xS}  (h : wp_Reader_commands Q σ ) : xM (SHP, γ) Y_Reader_commands (d + 266) [.ref 24] σ Q := by
  refine xM.of (by decide) (Nat.le_of_ble_eq_true rfl) ?_
  refine xJ.iconst (v := 0) (o_Reader_commands 0 rfl) (by decide) ?_
  refine xJ.istore_n (o_Reader_commands 1 rfl) (by decide) ?_
  obtain ⟨m, h⟩ := h
  exact xJ.lvs (by exact ⟨rfl, rfl, trivial⟩) (sw_Reader_commands_2 m _ _ h)
