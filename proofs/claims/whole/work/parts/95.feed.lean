/-! THE TEXT, byte by byte -/
def byt (a : Int32) (k : Nat) : Int32 := vp_nar .byte ((jishr a (nI k)).toInt8.toInt32)
def CT (σ : xS) (len : Nat) (tx : Nat → Int32) : Prop := xi σ 1 1 = nI len ∧ len ≤ 65536 ∧ ∀ i, i < len → xi σ 2 i = tx i
def RT (σ : xS) (len : Nat) (tx : Nat → Int32) : Prop := xi σ 50 3 = nI len ∧ len ≤ 65536 ∧ ∀ i, i < len → xi σ 51 i = tx i
/-- four bytes more -/
def lay4 (tx : Nat → Int32) (len : Nat) (a : Int32) : Nat → Int32 := fun i => if i < len then tx i else byt a (24 - 8 * (i - len))
def lay20 (tx : Nat → Int32) (len : Nat) (a b c d e : Int32) : Nat → Int32 := lay4 (lay4 (lay4 (lay4 (lay4 tx len a) (len + 4) b) (len + 8) c) (len + 12) d) (len + 16) e
section FEED
variable {σ σ' : xS} {Q : xO → xS → Prop} {len : Nat} {tx : Nat → Int32}
theorem nI_m8 {a b : Nat} (h : b ≤ a) : nI a + -nI b = nI (a - b) := nI_addm h
theorem v_append {a : Int32} (T : CT σ len tx) (hl : len + 4 ≤ 65536) (k : ∀ σ', oN [1, 2] [] σ σ' → (∀ j, j ≠ 1 → xi σ' 1 j = xi σ 1 j) → CT σ' (len + 4) (lay4 tx len a) → Q (.inl none) σ') : wp_Text_append Q σ a := by
  obtain ⟨t1, t2, t3⟩ := T
  have step : ∀ (m n : Nat) (s : xS) (j : Nat), j < 4 → xi s 1 1 = nI (len + j) → (∀ u, u = xpi (xpi s 2 (len + j) (byt a (24 - 8 * j))) 1 1 (nI (len + j + 1)) → w_Text_append_3 Q n a (nI (24 - 8 * j) + -8) u) → w_Text_append_3 Q (n + 1) a (nI (24 - 8 * j)) s := by
    intro m n s j hj e1 kk
    unfold w_Text_append_3
    rw [e1]
    simp (disch := omega) only [i32_lit, l64_lit, lc_eq, lc_ge, lc_le, lc_gt, lc_lt, jL_inj, jL_add, jL_sub, jL_mul, jL_neg, jL_and, jL_or, jL_xor, jL_mone, BitVec.xor_allOnes, nI_clamp, nI_ltI, nI_leI, nI_eq, nI_1, nI_add, nI_sub, nI_addm, nI_mul, vp_in_n, xi_pi, xi_pl, xl_pi, xl_pl, xb_pi, xb_pl, xqi_i, xql_l, xqv_v, xqi_e, xql_e, xqv_e, forall_eq, true_and, and_true]
    refine ⟨fun z => absurd z (by omega), fun _ => ⟨fun z => absurd z (by omega), fun _ => ?_⟩⟩
    have := kk _ rfl
    have n8 : (-8 : Int32) = -nI 8 := rfl
    rw [n8] at this
    simp only [show ((1 : Nat) = 2) = False from by simp, false_and, if_false, e1, nI_add, nI_1]
    exact this
  unfold wp_Text_append
  refine ⟨5, ?_⟩
  refine step 0 4 σ 0 (by decide) t1 (fun u1 e1 => ?_)
  have x1 : xi u1 1 1 = nI (len + 1) := by rw [e1, xi_pi, if_pos ⟨rfl, rfl⟩]
  refine step 0 3 u1 1 (by decide) x1 (fun u2 e2 => ?_)
  have x2 : xi u2 1 1 = nI (len + 2) := by rw [e2, xi_pi, if_pos ⟨rfl, rfl⟩]
  refine step 0 2 u2 2 (by decide) x2 (fun u3 e3 => ?_)
  have x3 : xi u3 1 1 = nI (len + 3) := by rw [e3, xi_pi, if_pos ⟨rfl, rfl⟩]
  refine step 0 1 u3 3 (by decide) x3 (fun u4 e4 => ?_)
  have x4 : xi u4 1 1 = nI (len + 4) := by rw [e4, xi_pi, if_pos ⟨rfl, rfl⟩]
  unfold w_Text_append_3
  refine ⟨fun _ => ?_, fun n => absurd (by decide) n⟩
  have od : ∀ (s u : xS) (p : Nat) (y : Int32) (z : Int32), u = xpi (xpi s 2 p y) 1 1 z → oN [1, 2] [] s u := fun s u p y z e => by
    rw [e]
    exact ((oN.pi s 2 p y).up (by decide) (by decide)).trans ((oN.pi _ 1 1 z).up (by decide) (by decide))
  have j1 : ∀ (s u : xS) (p : Nat) (y : Int32) (z : Int32), u = xpi (xpi s 2 p y) 1 1 z → ∀ j, j ≠ 1 → xi u 1 j = xi s 1 j := fun s u p y z e j hj => by
    rw [e, xi_pi, if_neg (fun q => hj q.2), xi_pi, if_neg (by omega)]
  have b2 : ∀ (s u : xS) (p : Nat) (y : Int32) (z : Int32), u = xpi (xpi s 2 p y) 1 1 z → ∀ i, xi u 2 i = if i = p then y else xi s 2 i := fun s u p y z e i => by
    rw [e, xi_pi, if_neg (by omega), xi_pi]
    by_cases c : i = p
    · rw [if_pos ⟨rfl, c⟩, if_pos c]
    · rw [if_neg (fun q => c q.2), if_neg c]
  refine k u4 ((od _ _ _ _ _ e1).trans ((od _ _ _ _ _ e2).trans ((od _ _ _ _ _ e3).trans (od _ _ _ _ _ e4)))) (fun j hj => by rw [j1 _ _ _ _ _ e4 j hj, j1 _ _ _ _ _ e3 j hj, j1 _ _ _ _ _ e2 j hj, j1 _ _ _ _ _ e1 j hj]) ⟨x4, hl, fun i hi => ?_⟩
  rw [b2 _ _ _ _ _ e4, b2 _ _ _ _ _ e3, b2 _ _ _ _ _ e2, b2 _ _ _ _ _ e1]
  unfold lay4
  by_cases c : i < len
  · rw [if_neg (by omega), if_neg (by omega), if_neg (by omega), if_neg (by omega), if_pos c]
    exact t3 i c
  · rw [if_neg c]
    have : i = len + 0 ∨ i = len + 1 ∨ i = len + 2 ∨ i = len + 3 := by omega
    rcases this with q | q | q | q
    · rw [if_neg (by omega), if_neg (by omega), if_neg (by omega), if_pos q, q, Nat.add_sub_cancel_left]
    · rw [if_neg (by omega), if_neg (by omega), if_pos q, q, Nat.add_sub_cancel_left]
    · rw [if_neg (by omega), if_pos q, q, Nat.add_sub_cancel_left]
    · rw [if_pos q, q, Nat.add_sub_cancel_left]
theorem v_feed {a b c d e : Int32} (T : CT σ len tx) (hx : 1 ≤ xb σ)
    (k1 : len ≤ 65516 → ∀ σ', oN [1, 2] [] σ σ' → (∀ j, j ≠ 1 → xi σ' 1 j = xi σ 1 j) → CT σ' (len + 20) (lay20 tx len a b c d e) → Q (.inl (some (.int (nI (len + 20))))) σ') (k2 : ¬ len ≤ 65516 → Q (.inr 0) (xpb σ (xb σ - 1))) : wp_VectorSolver_feed Q σ a b c d e := by
  have tl := T.2.1
  unfold wp_VectorSolver_feed
  rw [T.1]
  simp (disch := omega) only [i32_lit, l64_lit, lc_eq, lc_ge, lc_le, lc_gt, lc_lt, jL_inj, jL_add, jL_sub, jL_mul, jL_neg, jL_and, jL_or, jL_xor, jL_mone, BitVec.xor_allOnes, nI_clamp, nI_ltI, nI_leI, nI_eq, nI_1, nI_add, nI_sub, nI_addm, nI_mul, vp_in_n, xi_pi, xi_pl, xl_pi, xl_pl, xb_pi, xb_pl, xqi_i, xql_l, xqv_v, xqi_e, xql_e, xqv_e, forall_eq, true_and, and_true]
  refine ⟨fun z => ?_, fun z => ⟨hx, k2 z⟩⟩
  refine v_append T (by omega) (fun s1 o1 j1 T1 => ?_)
  rw [xqv_v]
  refine v_append T1 (by omega) (fun s2 o2 j2 T2 => ?_)
  rw [xqv_v]
  refine v_append T2 (by omega) (fun s3 o3 j3 T3 => ?_)
  rw [xqv_v]
  refine v_append T3 (by omega) (fun s4 o4 j4 T4 => ?_)
  rw [xqv_v]
  refine v_append T4 (by omega) (fun s5 o5 j5 T5 => ?_)
  rw [xqv_v, T5.1]
  exact k1 z s5 (o1.trans (o2.trans (o3.trans (o4.trans o5)))) (fun j hj => by rw [j5 j hj, j4 j hj, j3 j hj, j2 j hj, j1 j hj]) T5
theorem jishr0 (a : Int32) : jishr a (nI 0) = a := by
  apply Int32.toBitVec_inj.mp
  rw [Int32.toBitVec_shiftRight]
  have : ((nI 0 &&& 31).toBitVec.smod 32) = 0#32 := by decide
  rw [this]
  show a.toBitVec.sshiftRight 0 = _
  exact BitVec.sshiftRight_zero
/-- what the reference's text may change -/
def onlyT (σ σ' : xS) : Prop := (∀ a b, a ≠ 51 → ¬ (a = 50 ∧ (b = 1 ∨ b = 3)) → xi σ' a b = xi σ a b) ∧ (∀ a b, xl σ' a b = xl σ a b) ∧ xb σ' = xb σ
theorem onlyT.refl (σ : xS) : onlyT σ σ := ⟨fun _ _ _ _ => rfl, fun _ _ => rfl, rfl⟩
theorem onlyT.trans {σ σ' σ2 : xS} (h : onlyT σ σ') (h2 : onlyT σ' σ2) : onlyT σ σ2 := ⟨fun a b q1 q2 => (h2.1 a b q1 q2).trans (h.1 a b q1 q2), fun a b => (h2.2.1 a b).trans (h.2.1 a b), h2.2.2.trans h.2.2⟩
theorem r_lay0 {a : Int32} (T : RT σ len tx) (hl : len + 4 ≤ 65536) (k : ∀ σ', onlyT σ σ' → xi σ' 50 1 = xi σ 50 1 → RT σ' (len + 4) (lay4 tx len a) → Q (.inl none) σ') : wp_VectorSolverModel_lay0 Q σ a := by
  obtain ⟨t1, t2, t3⟩ := T
  have n1 : ∀ m, nI len + nI m = nI (len + m) := fun m => nI_add len m
  have vi : ∀ m, m < 4 → vp_in (nI (len + m)) 65536 := fun m hm => vp_in_nI (by omega) (by decide)
  have cl : ∀ m, m < 4 → (nI (len + m)).toNatClampNeg = len + m := fun m hm => nI_clamp (by omega)
  unfold wp_VectorSolverModel_lay0
  rw [t1]
  refine ⟨vi 0 (by decide), fun s1 e1 => ?_⟩
  rw [show (nI len).toNatClampNeg = len from cl 0 (by decide)] at e1
  have y1 : xi s1 50 3 = nI len := by rw [e1, xi_pi, if_neg (by omega)]; exact t1
  rw [y1, show nI len + 1 = nI (len + 1) from n1 1]
  refine ⟨vi 1 (by decide), fun s2 e2 => ?_⟩
  rw [cl 1 (by decide)] at e2
  have y2 : xi s2 50 3 = nI len := by rw [e2, xi_pi, if_neg (by omega)]; exact y1
  rw [y2, show nI len + 2 = nI (len + 2) from n1 2]
  refine ⟨vi 2 (by decide), fun s3 e3 => ?_⟩
  rw [cl 2 (by decide)] at e3
  have y3 : xi s3 50 3 = nI len := by rw [e3, xi_pi, if_neg (by omega)]; exact y2
  rw [y3, show nI len + 3 = nI (len + 3) from n1 3]
  refine ⟨vi 3 (by decide), fun s4 e4 s5 e5 => ?_⟩
  rw [cl 3 (by decide)] at e4
  have y4 : xi s4 50 3 = nI len := by rw [e4, xi_pi, if_neg (by omega)]; exact y3
  rw [y4, show nI len + 4 = nI (len + 4) from n1 4] at e5
  have e0 : vp_nar .byte (a.toInt8.toInt32) = byt a 0 := by unfold byt; rw [jishr0]
  rw [e0] at e4
  have e1 : s1 = xpi σ 51 (len + 0) (byt a 24) := e1
  have e2 : s2 = xpi s1 51 (len + 1) (byt a 16) := e2
  have e3 : s3 = xpi s2 51 (len + 2) (byt a 8) := e3
  have b2 : ∀ (s u : xS) (p : Nat) (y : Int32), u = xpi s 51 p y → ∀ i, xi u 51 i = if i = p then y else xi s 51 i := fun s u p y e i => by
    rw [e, xi_pi]
    by_cases c : i = p
    · rw [if_pos ⟨rfl, c⟩, if_pos c]
    · rw [if_neg (fun q => c q.2), if_neg c]
  have ot : ∀ (s u : xS) (p : Nat) (y : Int32), u = xpi s 51 p y → onlyT s u ∧ xi u 50 1 = xi s 50 1 := fun s u p y e => by
    rw [e]
    exact ⟨⟨fun c d h1 h2 => by rw [xi_pi, if_neg (fun q => h1 q.1)], fun _ _ => rfl, rfl⟩, by rw [xi_pi, if_neg (by omega)]⟩
  have o5 : onlyT s4 s5 ∧ xi s5 50 1 = xi s4 50 1 := by
    rw [e5]
    exact ⟨⟨fun c d h1 h2 => by rw [xi_pi, if_neg (fun q => h2 ⟨q.1, Or.inr q.2⟩)], fun _ _ => rfl, rfl⟩, by rw [xi_pi, if_neg (by decide)]⟩
  have o1 := ot _ _ _ _ e1
  have o2 := ot _ _ _ _ e2
  have o3 := ot _ _ _ _ e3
  have o4 := ot _ _ _ _ e4
  refine k s5 (o1.1.trans (o2.1.trans (o3.1.trans (o4.1.trans o5.1)))) (by rw [o5.2, o4.2, o3.2, o2.2, o1.2]) ⟨by rw [e5, xi_pi, if_pos ⟨rfl, rfl⟩], hl, fun i hi => ?_⟩
  have x51 : xi s5 51 i = xi s4 51 i := by rw [e5, xi_pi, if_neg (by omega)]
  rw [x51, b2 _ _ _ _ e4, b2 _ _ _ _ e3, b2 _ _ _ _ e2, b2 _ _ _ _ e1]
  unfold lay4
  by_cases c : i < len
  · rw [if_neg (by omega), if_neg (by omega), if_neg (by omega), if_neg (by omega), if_pos c]
    exact t3 i c
  · rw [if_neg c]
    have : i = len + 0 ∨ i = len + 1 ∨ i = len + 2 ∨ i = len + 3 := by omega
    rcases this with q | q | q | q
    · rw [if_neg (by omega), if_neg (by omega), if_neg (by omega), if_pos q, q, Nat.add_sub_cancel_left]
    · rw [if_neg (by omega), if_neg (by omega), if_pos q, q, Nat.add_sub_cancel_left]
    · rw [if_neg (by omega), if_pos q, q, Nat.add_sub_cancel_left]
    · rw [if_pos q, q, Nat.add_sub_cancel_left]
theorem RT.code (T : RT σ len tx) (x : Int32) : RT (xpi σ 50 1 x) len tx := ⟨by rw [xi_pi, if_neg (by decide)]; exact T.1, T.2.1, fun i hi => by rw [xi_pi, if_neg (by omega)]; exact T.2.2 i hi⟩
theorem onlyT.code (σ : xS) (x : Int32) : onlyT σ (xpi σ 50 1 x) := ⟨fun c d h1 h2 => by rw [xi_pi, if_neg (fun q => h2 ⟨q.1, Or.inl q.2⟩)], fun _ _ => rfl, rfl⟩
theorem r_feed {a b c d e : Int32} (T : RT σ len tx)
    (k1 : len ≤ 65516 → ∀ σ', onlyT σ σ' → xi σ' 50 1 = nI 0 → RT σ' (len + 20) (lay20 tx len a b c d e) → Q (.inl (some (.int (nI (len + 20))))) σ')
    (k2 : ¬ len ≤ 65516 → ∀ σ' y, onlyT σ σ' → xi σ' 50 1 = nI 1 → RT σ' len tx → Q (.inl (some (.int y))) σ') : wp_VectorSolverModel_feed Q σ a b c d e := by
  have tl := T.2.1
  unfold wp_VectorSolverModel_feed
  rw [T.1]
  simp (disch := omega) only [i32_lit, l64_lit, lc_eq, lc_ge, lc_le, lc_gt, lc_lt, jL_inj, jL_add, jL_sub, jL_mul, jL_neg, jL_and, jL_or, jL_xor, jL_mone, BitVec.xor_allOnes, nI_clamp, nI_ltI, nI_leI, nI_eq, nI_1, nI_add, nI_sub, nI_addm, nI_mul, vp_in_n, xi_pi, xi_pl, xl_pi, xl_pl, xb_pi, xb_pl, xqi_i, xql_l, xqv_v, xqi_e, xql_e, xqv_e, forall_eq, true_and, and_true]
  refine ⟨fun z => ?_, fun z => ?_⟩
  · intro s1 e1
    have x1 : xi s1 50 1 = nI 0 := by rw [e1, xi_pi, if_pos ⟨rfl, rfl⟩]
    have T0 : RT s1 len tx := by rw [e1]; exact T.code _
    have o0 : onlyT σ s1 := by rw [e1]; exact onlyT.code _ _
    rw [x1]
    refine ⟨fun _ => ?_, fun n => absurd (Int32.le_refl _) n⟩
    refine r_lay0 T0 (by omega) (fun s2 o2 j2 T2 => ?_)
    rw [xqv_v]
    refine r_lay0 T2 (by omega) (fun s3 o3 j3 T3 => ?_)
    rw [xqv_v]
    refine r_lay0 T3 (by omega) (fun s4 o4 j4 T4 => ?_)
    rw [xqv_v]
    refine r_lay0 T4 (by omega) (fun s5 o5 j5 T5 => ?_)
    rw [xqv_v]
    refine r_lay0 T5 (by omega) (fun s6 o6 j6 T6 => ?_)
    rw [xqv_v, T6.1]
    exact k1 (by omega) s6 (o0.trans (o2.trans (o3.trans (o4.trans (o5.trans o6))))) (by rw [j6, j5, j4, j3, j2, x1]) T6
  · intro s1 e1
    have x1 : xi s1 50 1 = nI 1 := by rw [e1, xi_pi, if_pos ⟨rfl, rfl⟩]
    rw [x1]
    exact ⟨fun n => absurd n (by decide), fun _ => k2 (by omega) s1 _ (by rw [e1]; exact onlyT.code _ _) x1 (by rw [e1]; exact T.code _)⟩
theorem v_trim {x : Int32} (T : CT σ len tx) (hx : 1 ≤ xb σ)
    (k1 : ∀ n, x = nI n → n ≤ 20 → n ≤ len → ∀ σ', oN [1] [] σ σ' → (∀ j, j ≠ 1 → xi σ' 1 j = xi σ 1 j) → CT σ' (len - n) tx → Q (.inl (some (.int (nI (len - n))))) σ') (k2 : (∀ n, x = nI n → ¬ (n ≤ 20 ∧ n ≤ len)) → Q (.inr 1) (xpb σ (xb σ - 1))) : wp_VectorSolver_trim Q σ x := by
  have tl := T.2.1
  unfold wp_VectorSolver_trim
  have no : (∀ n, x = nI n → ¬ (n ≤ 20 ∧ n ≤ len)) → w_VectorSolver_trim_21 Q σ := fun q => ⟨hx, k2 q⟩
  refine ⟨fun z => no (fun n e ⟨l1, l2⟩ => ?_), fun z => ⟨fun z2 => no (fun n e ⟨l1, l2⟩ => ?_), fun z2 => ⟨fun z3 => ?_, fun z3 => no (fun n e ⟨l1, l2⟩ => ?_)⟩⟩⟩
  · rw [e, show (0 : Int32) = nI 0 from rfl, nI_ltI (by omega) (by decide)] at z; omega
  · rw [e, show (20 : Int32) = nI 20 from rfl, nI_ltI (by decide) (by omega)] at z2; omega
  · obtain ⟨n, hn, e⟩ := nI_of z
    subst e
    have l1 : n ≤ 20 := by rw [show (20 : Int32) = nI 20 from rfl, nI_ltI (by decide) hn] at z2; omega
    have l2 : n ≤ len := by rw [T.1, nI_leI hn (by omega)] at z3; exact z3
    intro s1 e1
    rw [T.1, nI_sub l2] at e1
    have x1 : xi s1 1 1 = nI (len - n) := by rw [e1, xi_pi, if_pos ⟨rfl, rfl⟩]
    rw [x1]
    exact k1 n rfl l1 l2 s1 (by rw [e1]; exact oN.pi _ _ _ _) (fun j hj => by rw [e1, xi_pi, if_neg (fun q => hj q.2)]) ⟨x1, by omega, fun i hi => by rw [e1, xi_pi, if_neg (by omega)]; exact T.2.2 i (by omega)⟩
  · rw [e, T.1, nI_leI (by omega) (by omega)] at z3; omega
theorem r_trim {x : Int32} (T : RT σ len tx)
    (k1 : ∀ n, x = nI n → n ≤ 20 → n ≤ len → ∀ σ', onlyT σ σ' → xi σ' 50 1 = nI 0 → RT σ' (len - n) tx → Q (.inl (some (.int (nI (len - n))))) σ')
    (k2 : (∀ n, x = nI n → ¬ (n ≤ 20 ∧ n ≤ len)) → ∀ σ' y, onlyT σ σ' → xi σ' 50 1 = nI 1 → RT σ' len tx → Q (.inl (some (.int y))) σ') : wp_VectorSolverModel_trim Q σ x := by
  have tl := T.2.1
  have no : (∀ n, x = nI n → ¬ (n ≤ 20 ∧ n ≤ len)) → w_VectorSolverModel_trim_19 Q x σ := by
    intro q
    unfold w_VectorSolverModel_trim_19
    intro s1 e1
    have x1 : xi s1 50 1 = nI 1 := by rw [e1, xi_pi, if_pos ⟨rfl, rfl⟩]; rfl
    rw [x1]
    exact ⟨fun n => absurd n (by decide), fun _ => k2 q s1 _ (by rw [e1]; exact onlyT.code _ _) x1 (by rw [e1]; exact T.code _)⟩
  unfold wp_VectorSolverModel_trim
  refine ⟨fun z => no (fun n e ⟨l1, l2⟩ => ?_), fun z => ⟨fun z2 => no (fun n e ⟨l1, l2⟩ => ?_), fun z2 => ⟨fun z3 => ?_, fun z3 => no (fun n e ⟨l1, l2⟩ => ?_)⟩⟩⟩
  · rw [e, show (0 : Int32) = nI 0 from rfl, nI_ltI (by omega) (by decide)] at z; omega
  · rw [e, show (20 : Int32) = nI 20 from rfl, nI_ltI (by decide) (by omega)] at z2; omega
  · obtain ⟨n, hn, e⟩ := nI_of z
    subst e
    have l1 : n ≤ 20 := by rw [show (20 : Int32) = nI 20 from rfl, nI_ltI (by decide) hn] at z2; omega
    have l2 : n ≤ len := by rw [T.1, nI_leI hn (by omega)] at z3; exact z3
    intro s1 e1
    have x1 : xi s1 50 1 = nI 0 := by rw [e1, xi_pi, if_pos ⟨rfl, rfl⟩]; rfl
    have T1 : RT s1 len tx := by rw [e1]; exact T.code _
    have o1 : onlyT σ s1 := by rw [e1]; exact onlyT.code _ _
    rw [x1]
    refine ⟨fun _ => ?_, fun n => absurd (Int32.le_refl _) n⟩
    intro s2 e2
    rw [T1.1, nI_sub l2] at e2
    have x2 : xi s2 50 3 = nI (len - n) := by rw [e2, xi_pi, if_pos ⟨rfl, rfl⟩]
    rw [x2]
    refine k1 n rfl l1 l2 s2 (o1.trans ⟨fun c d h1 h2 => by rw [e2, xi_pi, if_neg (fun q => h2 ⟨q.1, Or.inr q.2⟩)], fun _ _ => by rw [e2]; rfl, by rw [e2]; rfl⟩) (by rw [e2, xi_pi, if_neg (by decide)]; exact x1) ⟨x2, by omega, fun i hi => by rw [e2, xi_pi, if_neg (by omega)]; exact T1.2.2 i (by omega)⟩
  · rw [e, T.1, nI_leI (by omega) (by omega)] at z3; omega
theorem v_fault {x fk fp : Int32} (h1 : xi σ 1 2 = fk) (h2 : xi σ 1 3 = fp) (hx : 1 ≤ xb σ) (k0 : x = 0 → Q (.inl (some (.int fk))) σ) (k1 : x = 1 → Q (.inl (some (.int fp))) σ) (k2 : x ≠ 0 → x ≠ 1 → Q (.inr 1) (xpb σ (xb σ - 1))) : wp_VectorSolver_fault Q σ x := by
  unfold wp_VectorSolver_fault
  rw [h1, h2]
  exact ⟨k0, k1, fun q => ⟨hx, k2 q.1 q.2⟩⟩
theorem r_fault {x fk fp : Int32} (h1 : xi σ 50 4 = fk) (h2 : xi σ 50 5 = fp)
    (k0 : x = 0 → Q (.inl (some (.int fk))) (xpi σ 50 1 (nI 0))) (k1 : x = 1 → Q (.inl (some (.int fp))) (xpi σ 50 1 (nI 0))) (k2 : x ≠ 0 → x ≠ 1 → ∀ y, Q (.inl (some (.int y))) (xpi σ 50 1 (nI 1))) : wp_VectorSolverModel_fault Q σ x := by
  unfold wp_VectorSolverModel_fault w_VectorSolverModel_fault_10
  have f : ∀ v : Int32, xi (xpi σ 50 1 v) 50 1 = v ∧ xi (xpi σ 50 1 v) 50 4 = fk ∧ xi (xpi σ 50 1 v) 50 5 = fp := fun v => ⟨by rw [xi_pi, if_pos ⟨rfl, rfl⟩], by rw [xi_pi, if_neg (by decide)]; exact h1, by rw [xi_pi, if_neg (by decide)]; exact h2⟩
  refine ⟨fun z => ?_, fun z => ⟨fun z2 => ?_, fun z2 => ?_⟩⟩
  · intro s1 e1
    obtain ⟨f1, f2, f3⟩ := f (nI 0)
    have e1 : s1 = xpi σ 50 1 (nI 0) := e1
    rw [e1, f1, f2, f3]
    exact ⟨fun _ => ⟨fun n => absurd z n, fun _ => k0 z⟩, fun n => absurd (Int32.le_refl _) n⟩
  · intro s1 e1
    obtain ⟨f1, f2, f3⟩ := f (nI 1)
    have e1 : s1 = xpi σ 50 1 (nI 1) := e1
    rw [e1, f1]
    exact ⟨fun n => absurd n (by decide), fun _ => k2 z z2 _⟩
  · intro s1 e1
    obtain ⟨f1, f2, f3⟩ := f (nI 0)
    have e1 : s1 = xpi σ 50 1 (nI 0) := e1
    rw [e1, f1, f2, f3]
    exact ⟨fun _ => ⟨fun _ => k1 z2, fun n => absurd n z⟩, fun n => absurd (Int32.le_refl _) n⟩
end FEED
