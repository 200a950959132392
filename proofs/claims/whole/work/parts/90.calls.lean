/-! THE CALLS: what holds between them -/
def nmB (B : Bk) : Prop := (∀ n, n < bna B → B.1 18 n < bma B) ∧ B.1 17 0 = 0 ∧ (∀ n, n < bna B → B.1 17 n ≤ B.1 17 (n + 1)) ∧ B.1 17 (bna B) ≤ 65536 ∧ ∀ i, i < bth B → B.1 20 i < bna B
def CC (B : Bk) (σ : xS) (eff : Nat) (f : Option Nat) (fs ft : Nat) : Prop := sInv B σ ∧ xi σ 0 5 = nI eff ∧ xi σ 30 17 = nI 0 ∧ xi σ 0 6 = supI f ∧ ∀ x, f = some x → xi σ 0 7 = nI fs ∧ xi σ 0 8 = nI ft ∧ xi σ 0 9 = nI 0
def CR (B : Bk) (σ : xS) (eff : Nat) (f : Option Nat) (fs : Nat) : Prop := RR B σ ∧ xl σ 50 46 = jL (BitVec.ofNat 64 (200000000 - eff)) ∧ xi σ 50 50 = bI f.isSome ∧ ∀ x, f = some x → xl σ 50 51 = jL (BitVec.ofNat 64 x) ∧ xi σ 50 52 = nI fs
def WW (B : Bk) (eff : Nat) (f : Option Nat) (fs ft : Nat) : Prop := wfB B ∧ lwB B ∧ nmB B ∧ eff ≤ 200000000 ∧ ∀ x, f = some x → x < 2 ^ fs ∧ fs ≤ 16 ∧ ft ≤ bth B ∧ bbe B ft = fs
/-- the cells below 50 are the class's -/
theorem CC.keep {B : Bk} {σ σ' : xS} {eff : Nat} {f : Option Nat} {fs ft : Nat} (h : CC B σ eff f fs ft) (hi : ∀ a b, a < 50 → xi σ' a b = xi σ a b) (hl : ∀ a b, a < 50 → xl σ' a b = xl σ a b) : CC B σ' eff f fs ft := by
  obtain ⟨⟨r, m1, m2, z⟩, c1, c2, c3, c4⟩ := h
  refine ⟨⟨r.keep (fun a b _ q => hi a b (by omega)) (fun a b _ q => hl a b (by omega)), fun t ht => (hi 36 t (by decide)).trans (m1 t ht), fun t ht => (hi 47 t (by decide)).trans (m2 t ht), fun t ht => (hl 43 t (by decide)).trans (z t ht)⟩, (hi 0 5 (by decide)).trans c1, (hi 30 17 (by decide)).trans c2, (hi 0 6 (by decide)).trans c3, fun x hx => ?_⟩
  obtain ⟨d1, d2, d3⟩ := c4 x hx
  exact ⟨(hi 0 7 (by decide)).trans d1, (hi 0 8 (by decide)).trans d2, (hi 0 9 (by decide)).trans d3⟩
theorem CR.keep {B : Bk} {σ σ' : xS} {eff : Nat} {f : Option Nat} {fs : Nat} (h : CR B σ eff f fs) (hi : ∀ a b, 50 ≤ a → xi σ' a b = xi σ a b) (hl : ∀ a b, 50 ≤ a → xl σ' a b = xl σ a b) : CR B σ' eff f fs := by
  obtain ⟨⟨⟨a1, a2, a3, a4, a5, a6, a7⟩, b, c, d, e, f, g⟩, c1, c2, c3⟩ := h
  refine ⟨⟨⟨(hi 50 11 (by decide)).trans a1, (hi 50 21 (by decide)).trans a2, (hi 50 23 (by decide)).trans a3, (hi 50 27 (by decide)).trans a4, (hi 50 42 (by decide)).trans a5, (hi 50 44 (by decide)).trans a6, (hi 50 45 (by decide)).trans a7⟩, fun t ht => ?_, fun i q => (hi 65 i (by decide)).trans (c i q), fun n q => ?_, fun i q => (hi 68 i (by decide)).trans (e i q), fun i q => (hi 69 i (by decide)).trans (f i q), fun i q => ?_⟩, (hl 50 46 (by decide)).trans c1, (hi 50 50 (by decide)).trans c2, fun x hx => ⟨(hl 50 51 (by decide)).trans (c3 x hx).1, (hi 50 52 (by decide)).trans (c3 x hx).2⟩⟩
  · rw [hi 56 t (by decide), hi 57 t (by decide), hi 58 t (by decide), hi 59 t (by decide), hi 60 t (by decide), hi 62 t (by decide), hl 64 t (by decide)]; exact b t ht
  · rw [hi 66 n (by decide), hi 67 n (by decide)]; exact d n q
  · rw [hi 80 i (by decide), hi 63 _ (by decide)]; exact g i q
section CALLS
variable {B : Bk} {σ σ' : xS} {Q : xO → xS → Prop} {t J a eff fs ft : Nat} {f sup : Option Nat}
theorem be_bound (w : wfB B) : ∀ i, i ≤ bth B → bbe B i ≤ 4096 * i
  | 0, _ => by have := w.2.2.2.2.2.1; omega
  | i + 1, h => by
    have ih := be_bound w i (by omega)
    have y := wf_th w (show i < bth B by omega)
    have := (wf_so w y.1).sz
    omega
theorem bsz_le (w : wfB B) : bsz B ≤ 2048000 := by
  have := be_bound w (bth B) (Nat.le_refl _)
  have : bth B ≤ 500 := w.1.2.2.2.1
  show bbe B (bth B) ≤ _
  omega
theorem v_size (r : RC B σ) (w : wfB B) (k : Q (.inl (some (.int (nI (bsz B))))) σ) : wp_Book_size Q σ := by
  have ht5 : bth B ≤ 500 := w.1.2.2.2.1
  unfold wp_Book_size
  simp (disch := omega) only [i32_lit, l64_lit, lc_eq, lc_ge, lc_le, lc_gt, lc_lt, jL_inj, jL_add, jL_sub, jL_mul, jL_neg, jL_and, jL_or, jL_xor, jL_mone, BitVec.xor_allOnes, nI_clamp, nI_ltI, nI_leI, nI_eq, nI_1, nI_add, nI_sub, nI_addm, nI_mul, vp_in_n, xi_pi, xi_pl, xl_pi, xl_pl, xb_pi, xb_pl, xqi_i, xql_l, xqv_v, xqi_e, xql_e, xqv_e, forall_eq, true_and, and_true, r.1.2.2.2.1, rc_be r]
  exact k
theorem v_effort (r : RC B σ) (w : wfB B) (hS : bsz B ≤ 16) (k : Q (.inl (some (.int (nI (bma B * 2 ^ bsz B))))) σ) : wp_VectorSolver_effort Q σ := by
  unfold wp_VectorSolver_effort
  refine v_size r w ?_
  rw [xqi_i, r.1.1, nI_shl _ (by omega)]
  exact k
theorem eff_le (w : wfB B) (hS : bsz B ≤ 16) : bma B * 2 ^ bsz B ≤ 131072000 := by
  have := wf_ma w
  have p16 : 2 ^ bsz B ≤ 65536 := Nat.pow_le_pow_right (n := 2) (by decide) hS
  calc bma B * 2 ^ bsz B ≤ 2000 * 65536 := Nat.mul_le_mul this p16
    _ = 131072000 := rfl
theorem e_none {J : Int32} (r : RC B σ) (w : wfB B) (h0 : bma B = 0) (k : Q (.inl none) σ) (S : Int32) : wp_Evaluator_evaluate_48 Q σ J S (-1) := by
  have bt : bth B = 0 := by
    apply Classical.byContradiction
    intro n
    have := (wf_th w (show 0 < bth B by omega)).1
    omega
  unfold wp_Evaluator_evaluate_48 wp_Evaluator_takeThings_48
  refine ⟨1, ?_⟩
  unfold w_Evaluator_takeThings_48_2
  rw [r.1.2.2.2.1, bt]
  refine ⟨fun _ => ?_, fun n => absurd (Int32.le_refl _) n⟩
  rw [xqv_v]
  refine ⟨1, ?_⟩
  unfold w_Evaluator_evaluate_48_9
  exact ⟨fun _ => k, fun n => absurd (by decide) n⟩
theorem v_count (I0 : sInv B σ) (w : wfB B) (hS : bsz B ≤ 16) (hJ : J < 2 ^ bsz B) (hs : ∀ t, sup = some t → t < bma B ∧ bso B t = 0) (hf : xi σ 0 6 = nI J) (hz : xi σ 0 7 = nI (bsz B)) (hg : sat B sup J)
    (k : ∀ σ', oN [] [49] σ σ' → Q (.inl (some (.int (nI 0)))) σ') : wp_VectorSolver_countFalse Q σ (supI sup) := by
  have hm := wf_ma w
  have p16 : 2 ^ bsz B ≤ 65536 := Nat.pow_le_pow_right (n := 2) (by decide) hS
  have ha5 : bas B ≤ 500 := w.1.2.2.2.2.1
  have hsd : ∀ i, i < bas B → bsd B i < bma B ∧ bso B (bsd B i) = 0 := w.2.2.2.2.2.2
  have loop : ∀ s, oN [] [49] σ s → (∀ b, b < bma B → xl s 49 b = jL (ev B J b)) → ∃ m, w_VectorSolver_countFalse_54 Q m (nI 0) (nI 0) s := by
    intro s o1 h1
    have r := o1.rc (by decide) (by decide) I0.1
    have key := loop_i (σ := Unit) (fun n i _ => w_VectorSolver_countFalse_54 Q n (nI 0) (nI i) s) (fun _ _ => True) (bas B) (fun n _ _ => ?_) (fun n i _ hi _ hs2 => ?_)
    · exact ⟨_, key (bas B + 1) 0 () (by omega) (by omega) trivial⟩
    · unfold w_VectorSolver_countFalse_54
      simp (disch := omega) only [i32_lit, l64_lit, lc_eq, lc_ge, lc_le, lc_gt, lc_lt, jL_inj, jL_add, jL_sub, jL_mul, jL_neg, jL_and, jL_or, jL_xor, jL_mone, BitVec.xor_allOnes, nI_clamp, nI_ltI, nI_leI, nI_eq, nI_1, nI_add, nI_sub, nI_addm, nI_mul, vp_in_n, xi_pi, xi_pl, xl_pi, xl_pl, xb_pi, xb_pl, xqi_i, xql_l, xqv_v, xqi_e, xql_e, xqv_e, forall_eq, true_and, and_true, r.1.2.2.2.2]
      exact ⟨fun _ => k s o1, fun z => absurd (Nat.le_refl _) z⟩
    · have sd := hsd i hi
      unfold w_VectorSolver_countFalse_54
      simp (disch := omega) only [i32_lit, l64_lit, lc_eq, lc_ge, lc_le, lc_gt, lc_lt, jL_inj, jL_add, jL_sub, jL_mul, jL_neg, jL_and, jL_or, jL_xor, jL_mone, BitVec.xor_allOnes, nI_clamp, nI_ltI, nI_leI, nI_eq, nI_1, nI_add, nI_sub, nI_addm, nI_mul, vp_in_n, xi_pi, xi_pl, xl_pi, xl_pl, xb_pi, xb_pl, xqi_i, xql_l, xqv_v, xqi_e, xql_e, xqv_e, forall_eq, true_and, and_true, r.1.2.2.2.2, rc_sd r, h1 _ sd.1]
      refine ⟨fun z => absurd z (by omega), fun _ => ⟨fun _ => hs2 () trivial, fun z => absurd z (hg _ (Or.inl ⟨i, hi, rfl⟩))⟩⟩
  have go : ∀ s, oN [] [49] σ s → (∀ b, b < bma B → xl s 49 b = jL (ev B J b)) → ((supI sup = (-1) → ∃ m, w_VectorSolver_countFalse_54 Q m 0 0 s) ∧ (¬ supI sup = (-1) → (vp_in (supI sup) 2000 ∧ ((¬ (lg_cmp (xl s 49 (supI sup).toNatClampNeg) 0) = 0 → ∃ m, w_VectorSolver_countFalse_54 Q m 0 0 s) ∧ ((lg_cmp (xl s 49 (supI sup).toNatClampNeg) 0) = 0 → ∃ m, w_VectorSolver_countFalse_54 Q m 1 0 s))))) := by
    intro s o1 h1
    refine ⟨fun _ => loop s o1 h1, fun e => ?_⟩
    cases hsup : sup with
    | none => rw [hsup] at e; exact absurd rfl e
    | some u =>
      have su := hs u hsup
      show vp_in (nI u) 2000 ∧ _
      show vp_in (nI u) 2000 ∧ ((¬ (lg_cmp (xl s 49 (nI u).toNatClampNeg) 0) = 0 → ∃ m, w_VectorSolver_countFalse_54 Q m 0 0 s) ∧ ((lg_cmp (xl s 49 (nI u).toNatClampNeg) 0) = 0 → ∃ m, w_VectorSolver_countFalse_54 Q m 1 0 s))
      simp (disch := omega) only [i32_lit, l64_lit, lc_eq, lc_ge, lc_le, lc_gt, lc_lt, jL_inj, jL_add, jL_sub, jL_mul, jL_neg, jL_and, jL_or, jL_xor, jL_mone, BitVec.xor_allOnes, nI_clamp, nI_ltI, nI_leI, nI_eq, nI_1, nI_add, nI_sub, nI_addm, nI_mul, vp_in_n, xi_pi, xi_pl, xl_pi, xl_pl, xb_pi, xb_pl, xqi_i, xql_l, xqv_v, xqi_e, xql_e, xqv_e, forall_eq, true_and, and_true, h1 u su.1]
      exact ⟨fun _ => loop s o1 h1, fun z => absurd z (hg u (Or.inr hsup))⟩
  unfold wp_VectorSolver_countFalse
  rw [hf, hz, I0.1.1.1]
  by_cases h0 : bma B = 0
  · rw [h0]
    refine e_none (J := nI J) I0.1 w h0 ?_ (nI (bsz B))
    rw [xqv_v]
    exact go σ (oN.refl _ _ _) (fun b hb => by omega)
  · rw [show (1 : Int32) = nI 1 from rfl, nI_sub (by omega)]
    refine e_evaluate_48 I0.1 w hS (by omega) (by omega) (fun s o1 h1 => ?_)
    rw [xqv_v]
    exact go s o1.n (fun b hb => h1 b (by omega))
theorem v_searchFrom (C : CC B σ eff f fs ft) (w : wfB B) (l : lwB B) (hS : bsz B ≤ 16) (ha : a ≤ 2 ^ bsz B) (hs : ∀ t, sup = some t → t < bma B ∧ bso B t = 0) (he : bma B * 2 ^ bsz B ≤ eff)
    (k : ∀ σ' r, oN [0, 30, 31, 32, 33, 34, 35, 36, 37, 38, 39, 42, 47] [41, 43, 45, 46, 49] σ σ' → CC B σ' (eff - bma B * 2 ^ bsz B) r (bsz B) (bth B) → leastOK B sup a r → Q (.inl (some (.int (bI r.isSome)))) σ') : wp_VectorSolver_searchFrom Q σ (nI a) (supI sup) := by
  obtain ⟨I0, c1, c2, c3, c4⟩ := C
  have p16 : 2 ^ bsz B ≤ 65536 := Nat.pow_le_pow_right (n := 2) (by decide) hS
  unfold wp_VectorSolver_searchFrom
  refine v_effort I0.1 w hS ?_
  rw [xqi_i]
  intro s3 e3
  rw [c1, nI_sub he] at e3
  have o3 : oN [0] [] σ s3 := by rw [e3]; exact oN.pi _ _ _ _
  have inv : ∀ s, oN [0] [] σ s → sInv B s := fun s o => ⟨o.rc (by decide) (by decide) I0.1, I0.2.1.keep o (by decide), I0.2.2.1.keep o (by decide), fun b hb => (o.2.1 43 b (by decide)).trans (I0.2.2.2 b hb)⟩
  refine v_size (inv s3 o3).1 w ?_
  rw [xqi_i]
  intro s6 e6 s7 e7
  have r3 := (inv s3 o3).1
  have o6 : oN [0] [] σ s6 := o3.trans (by rw [e6]; exact oN.pi _ _ _ _)
  have o7 : oN [0] [] σ s7 := o6.trans (by rw [e7]; exact oN.pi _ _ _ _)
  have x58 : xi s6 5 8 = nI (bth B) := (inv s6 o6).1.1.2.2.2.1
  rw [x58] at e7
  have y5 : xi s7 0 5 = nI (eff - bma B * 2 ^ bsz B) := by rw [e7, xi_pi, if_neg (by decide), e6, xi_pi, if_neg (by decide), e3, xi_pi, if_pos ⟨rfl, rfl⟩]
  have y7 : xi s7 0 7 = nI (bsz B) := by rw [e7, xi_pi, if_neg (by decide), e6, xi_pi, if_pos ⟨rfl, rfl⟩]
  have y8 : xi s7 0 8 = nI (bth B) := by rw [e7, xi_pi, if_pos ⟨rfl, rfl⟩]
  rw [y7]
  refine s_least (inv s7 o7) w l hS ha hs (fun s8 r o8 i8 u8 l8 => ?_)
  rw [xqi_i]
  intro s10 e10
  have o78 : oN [0, 30, 31, 32, 33, 34, 35, 36, 37, 38, 39, 42, 47] [41, 43, 45, 46, 49] σ s8 := (o7.up (by decide) (by decide)).trans (o8.up (by decide) (by decide))
  have o10 : oN [0] [] s8 s10 := by rw [e10]; exact oN.pi _ _ _ _
  have oA : oN [0, 30, 31, 32, 33, 34, 35, 36, 37, 38, 39, 42, 47] [41, 43, 45, 46, 49] σ s10 := o78.trans (o10.up (by decide) (by decide))
  have i10 : sInv B s10 := ⟨o10.rc (by decide) (by decide) i8.1, i8.2.1.keep o10 (by decide), i8.2.2.1.keep o10 (by decide), fun b hb => (o10.2.1 43 b (by decide)).trans (i8.2.2.2 b hb)⟩
  have z6 : xi s10 0 6 = supI r := by rw [e10, xi_pi, if_pos ⟨rfl, rfl⟩]
  have z5 : xi s10 0 5 = nI (eff - bma B * 2 ^ bsz B) := by rw [e10, xi_pi, if_neg (by decide)]; exact (o8.1 0 5 (by decide)).trans y5
  have z7 : xi s10 0 7 = nI (bsz B) := by rw [e10, xi_pi, if_neg (by decide)]; exact (o8.1 0 7 (by decide)).trans y7
  have z8 : xi s10 0 8 = nI (bth B) := by rw [e10, xi_pi, if_neg (by decide)]; exact (o8.1 0 8 (by decide)).trans y8
  have z17 : xi s10 30 17 = nI 0 := (o10.1 30 17 (by decide)).trans (u8.trans ((o7.1 30 17 (by decide)).trans c2))
  rw [z6]
  cases r with
  | none =>
    refine ⟨fun _ => ?_, fun n => absurd rfl n⟩
    unfold w_VectorSolver_searchFrom_69
    rw [z6]
    exact ⟨fun _ => k s10 none oA ⟨i10, z5, z17, z6, fun x q => (by cases q)⟩ l8, fun n => absurd rfl n⟩
  | some x =>
    obtain ⟨l1, l2, l3, l4⟩ := l8
    have nm : (nI x = -1) = False := nI_ne_m1 (by omega)
    refine ⟨fun n => ?_, fun _ => ?_⟩
    · have n : nI x = -1 := n
      rw [nm] at n
      exact n.elim
    · refine v_count i10 w hS l2 hs z6 z7 l3 (fun s12 o12 => ?_)
      rw [xqi_i]
      intro s13 e13
      have o13 : oN [0] [49] s10 s13 := (o12.up (by decide) (by decide)).trans (by rw [e13]; exact (oN.pi _ _ _ _).up (by decide) (by decide))
      have f6 : xi s13 0 6 = supI (some x) := by rw [e13, xi_pi, if_neg (by decide)]; exact (o12.1 0 6 (by decide)).trans z6
      unfold w_VectorSolver_searchFrom_69
      rw [f6]
      refine ⟨fun n => ?_, fun _ => k s13 (some x) (oA.trans (o13.up (by decide) (by decide))) ⟨⟨o13.rc (by decide) (by decide) i10.1, i10.2.1.keep o13 (by decide), i10.2.2.1.keep o13 (by decide), fun b hb => (o13.2.1 43 b (by decide)).trans (i10.2.2.2 b hb)⟩, ?_, (o13.1 30 17 (by decide)).trans z17, f6, fun y q => ⟨?_, ?_, ?_⟩⟩ ⟨l1, l2, l3, l4⟩⟩
      · have n : nI x = -1 := n
        rw [nm] at n
        exact n.elim
      · rw [e13, xi_pi, if_neg (by decide)]; exact (o12.1 0 5 (by decide)).trans z5
      · rw [e13, xi_pi, if_neg (by decide)]; exact (o12.1 0 7 (by decide)).trans z7
      · rw [e13, xi_pi, if_neg (by decide)]; exact (o12.1 0 8 (by decide)).trans z8
      · rw [e13, xi_pi, if_pos ⟨rfl, rfl⟩]
end CALLS
