/-! THE REFERENCE HOLDS THE SAME BOOK -/
def opr (o : Nat) : Nat := if o = 47 then 0 else if o = 48 then 1 else if o < 13 then o + 26 else o - 11
def RR (B : Bk) (σ : xS) : Prop :=
  (xi σ 50 11 = nI (bma B) ∧ xi σ 50 21 = nI (bfi B (bma B)) ∧ xi σ 50 23 = nI (bna B) ∧ xi σ 50 27 = nI (bas B) ∧ xi σ 50 42 = nI (bth B) ∧ xi σ 50 44 = nI (bwe B) ∧ xi σ 50 45 = nI (bsz B)) ∧
  (∀ t, t < bma B → xi σ 56 t = nI (opr (bop B t)) ∧ xi σ 57 t = nI (bso B t / 128) ∧ xi σ 58 t = nI (bso B t % 128) ∧ xi σ 59 t = nI (bfi B t) ∧ xi σ 60 t = nI (bfi B (t + 1) - bfi B t) ∧ (bop B t = 10 → xi σ 62 t = nI (blo B t)) ∧ (bop B t = 48 → xl σ 64 t = jL (B.2 t))) ∧
  (∀ i, i < bfi B (bma B) → xi σ 65 i = nI (bar B i)) ∧
  (∀ n, n < bna B → xi σ 66 n = nI (B.1 17 (n + 1)) ∧ xi σ 67 n = nI (B.1 18 n)) ∧
  (∀ i, i < B.1 17 (bna B) → xi σ 68 i = nI (B.1 16 i)) ∧
  (∀ i, i < bas B → xi σ 69 i = nI (bsd B i)) ∧
  (∀ i, i < bth B → xi σ 80 i = nI (btt B i) ∧ xi σ 63 (btt B i) = nI (B.1 20 i))
section RBK
variable {B : Bk} {σ σ' : xS} {Q : xO → xS → Prop} {t J : Nat}
theorem RR.keep {I L : List Nat} (h : RR B σ) (o : oN I L σ σ') (hI : ∀ a ∈ [50, 56, 57, 58, 59, 60, 62, 63, 65, 66, 67, 68, 69, 80], a ∉ I) (hL : 64 ∉ L) : RR B σ' := by
  obtain ⟨⟨a1, a2, a3, a4, a5, a6, a7⟩, b, c, d, e, f, g⟩ := h
  have q : ∀ k j, k ∈ [50, 56, 57, 58, 59, 60, 62, 63, 65, 66, 67, 68, 69, 80] → xi σ' k j = xi σ k j := fun k j hk => o.1 k j (hI k hk)
  refine ⟨⟨?_, ?_, ?_, ?_, ?_, ?_, ?_⟩, fun t ht => ?_, fun i hi => ?_, fun n hn => ?_, fun i hi => ?_, fun i hi => ?_, fun i hi => ?_⟩
  · rw [q 50 11 (by decide)]; exact a1
  · rw [q 50 21 (by decide)]; exact a2
  · rw [q 50 23 (by decide)]; exact a3
  · rw [q 50 27 (by decide)]; exact a4
  · rw [q 50 42 (by decide)]; exact a5
  · rw [q 50 44 (by decide)]; exact a6
  · rw [q 50 45 (by decide)]; exact a7
  · rw [q 56 t (by decide), q 57 t (by decide), q 58 t (by decide), q 59 t (by decide), q 60 t (by decide), q 62 t (by decide), o.2.1 64 t hL]; exact b t ht
  · rw [q 65 i (by decide)]; exact c i hi
  · rw [q 66 n (by decide), q 67 n (by decide)]; exact d n hn
  · rw [q 68 i (by decide)]; exact e i hi
  · rw [q 69 i (by decide)]; exact f i hi
  · rw [q 80 i (by decide), q 63 _ (by decide)]; exact g i hi
theorem rr_wh (h : RR B σ) (ht : t < bma B) : xi σ 56 t = nI (opr (bop B t)) := (h.2.1 t ht).1
theorem rr_ix (h : RR B σ) (ht : t < bma B) : xi σ 57 t = nI (bso B t / 128) := (h.2.1 t ht).2.1
theorem rr_wi (h : RR B σ) (ht : t < bma B) : xi σ 58 t = nI (bso B t % 128) := (h.2.1 t ht).2.2.1
theorem rr_fi (h : RR B σ) (ht : t < bma B) : xi σ 59 t = nI (bfi B t) := (h.2.1 t ht).2.2.2.1
theorem rr_ma (h : RR B σ) (ht : t < bma B) : xi σ 60 t = nI (bfi B (t + 1) - bfi B t) := (h.2.1 t ht).2.2.2.2.1
theorem rr_ar {i : Nat} (h : RR B σ) (hi : i < bfi B (bma B)) : xi σ 65 i = nI (bar B i) := h.2.2.1 i hi
/-- cells of a sort -/
def ncl (s : Nat) : Nat := 2 ^ (s / 128)
theorem ncl_le {s : Nat} (h : okS s) : 1 ≤ ncl s ∧ ncl s ≤ 64 := by
  unfold ncl
  have h1 : s / 128 ≤ 6 := h.1
  have h2 : 2 ^ (s / 128) ≤ 2 ^ 6 := Nat.pow_le_pow_right (by decide) h1
  exact ⟨Nat.one_le_two_pow, h2⟩
theorem r_cells (h : RR B σ) (w : wfB B) (ht : t < bma B) (k : Q (.inl (some (.int (nI (ncl (bso B t)))))) σ) : wp_VectorSolverModel_cells Q σ (nI t) := by
  have hm := wf_ma w
  have ok := wf_so w ht
  have o6 : bso B t / 128 ≤ 6 := ok.1
  unfold wp_VectorSolverModel_cells
  simp (disch := omega) only [i32_lit, l64_lit, lc_eq, lc_ge, lc_le, lc_gt, lc_lt, jL_inj, jL_add, jL_sub, jL_mul, jL_neg, jL_and, jL_or, jL_xor, jL_mone, BitVec.xor_allOnes, nI_clamp, nI_ltI, nI_leI, nI_eq, nI_1, nI_add, nI_sub, nI_addm, nI_mul, vp_in_n, xi_pi, xi_pl, xl_pi, xl_pl, xb_pi, xb_pl, xqi_i, xql_l, xqv_v, xqi_e, xql_e, xqv_e, forall_eq, true_and, and_true, rr_ix h, nI_shl, Nat.one_mul]
  refine ⟨fun z => ?_, fun z => k⟩
  have e : ncl (bso B t) = 1 := by unfold ncl; rw [show bso B t / 128 = 0 by omega]
  rw [e] at k
  exact k
theorem r_of {i : Nat} (h : RR B σ) (w : wfB B) (ht : t < bma B) (hi : i < bfi B (t + 1) - bfi B t) (k : Q (.inl (some (.int (nI (bar B (bfi B t + i)))))) σ) : wp_VectorSolverModel_of Q σ (nI t) (nI i) := by
  have hm := wf_ma w
  obtain ⟨f1, f2, f3⟩ := wf_fi w ht
  unfold wp_VectorSolverModel_of
  simp (disch := omega) only [i32_lit, l64_lit, lc_eq, lc_ge, lc_le, lc_gt, lc_lt, jL_inj, jL_add, jL_sub, jL_mul, jL_neg, jL_and, jL_or, jL_xor, jL_mone, BitVec.xor_allOnes, nI_clamp, nI_ltI, nI_leI, nI_eq, nI_1, nI_add, nI_sub, nI_addm, nI_mul, vp_in_n, xi_pi, xi_pl, xl_pi, xl_pl, xb_pi, xb_pl, xqi_i, xql_l, xqv_v, xqi_e, xql_e, xqv_e, forall_eq, true_and, and_true, rr_fi h, rr_ar h]
  exact k
/-- the reference's cells of a term hold its worth -/
def now (B : Bk) (J : Nat) (σ : xS) (a : Nat) : Prop := ∀ c, c < ncl (bso B a) → xl σ 81 (64 * a + c) = jL (cel (bso B a) (ev B J a) c)
theorem cel_0 {s : Nat} {v : BitVec 64} (hs : s ≤ 64) (hv : v &&& bm (min 64 (szs s)) = v) : cel s v 0 = v := by
  unfold cel csh
  rw [show s / 128 = 0 by omega]
  simp only [Nat.pow_zero, Nat.sub_self, Nat.zero_mul, BitVec.ushiftRight_zero]
  by_cases e : s = 0
  · rw [if_pos e]
    unfold szs at hv
    rw [if_pos e] at hv
    exact hv
  · rw [if_neg e, show s % 128 = s by omega]
    rw [vec_sz (by omega) hs] at hv
    exact hv
theorem now_0 {a : Nat} (w : wfB B) (ha : a < bma B) (hs : bso B a ≤ 64) (h : now B J σ a) : xl σ 81 (64 * a) = jL (ev B J a) := by
  have := h 0 (ncl_le (wf_so w ha)).1
  rw [Nat.add_zero, cel_0 hs (ev_sub w ha)] at this
  exact this
theorem r_valueOf {i : Nat} (h : RR B σ) (w : wfB B) (ht : t < bma B) (hi : i < bfi B (t + 1) - bfi B t) (hs : bso B (bar B (bfi B t + i)) ≤ 64) (hn : now B J σ (bar B (bfi B t + i))) (k : Q (.inl (some (.long (jL (ev B J (bar B (bfi B t + i))))))) σ) : wp_VectorSolverModel_valueOf Q σ (nI t) (nI i) := by
  have hm := wf_ma w
  have la := wf_ar w ht (show bfi B t ≤ bfi B t + i by omega) (by omega)
  unfold wp_VectorSolverModel_valueOf
  refine r_of h w ht hi ?_
  rw [xqi_i]
  simp (disch := omega) only [i32_lit, l64_lit, lc_eq, lc_ge, lc_le, lc_gt, lc_lt, jL_inj, jL_add, jL_sub, jL_mul, jL_neg, jL_and, jL_or, jL_xor, jL_mone, BitVec.xor_allOnes, nI_clamp, nI_ltI, nI_leI, nI_eq, nI_1, nI_add, nI_sub, nI_addm, nI_mul, vp_in_n, xi_pi, xi_pl, xl_pi, xl_pl, xb_pi, xb_pl, xqi_i, xql_l, xqv_v, xqi_e, xql_e, xqv_e, forall_eq, true_and, and_true, now_0 w (show bar B (bfi B t + i) < bma B by omega) hs hn]
  exact k
/-- where all cells are alike, the whole is -/
theorem cel_ext {s : Nat} {v v' : BitVec 64} (ok : okS s) (hs : szs s ≤ 64) (hv : v &&& bm (szs s) = v) (hv' : v' &&& bm (szs s) = v') (h : ∀ c, c < ncl s → cel s v c = cel s v' c) : v = v' := by
  apply BitVec.eq_of_getLsbD_eq
  intro i hi
  by_cases e : i < szs s
  · by_cases s0 : s = 0
    · have := h 0 (ncl_le ok).1
      rw [cel_0 (by omega) (by rw [Nat.min_eq_right hs]; exact hv), cel_0 (by omega) (by rw [Nat.min_eq_right hs]; exact hv')] at this
      rw [this]
    · have hw : 1 ≤ s % 128 := by unfold okS at ok; omega
      have ez : szs s = s % 128 * ncl s := by unfold szs ncl; rw [if_neg s0]
      have q1 : i / (s % 128) < ncl s := Nat.div_lt_of_lt_mul (by rw [← ez]; exact e)
      have q2 := Nat.div_add_mod i (s % 128)
      have q3 := Nat.mod_lt i (show 0 < s % 128 by omega)
      have n1 := (ncl_le ok).1
      have hc := h (ncl s - 1 - i / (s % 128)) (Nat.lt_of_le_of_lt (Nat.sub_le _ _) (by omega))
      have ec : csh s (ncl s - 1 - i / (s % 128)) = i / (s % 128) * (s % 128) := by
        unfold csh
        show (ncl s - 1 - (ncl s - 1 - i / (s % 128))) * (s % 128) = _
        rw [Nat.sub_sub_self (by omega)]
      have hb := congrArg (fun x => x.getLsbD (i % (s % 128))) hc
      unfold cel at hb
      rw [ec, if_neg s0] at hb
      simp only [BitVec.getLsbD_and, BitVec.getLsbD_ushiftRight, bm_bit] at hb
      rw [show i / (s % 128) * (s % 128) + i % (s % 128) = i by rw [Nat.mul_comm]; exact q2, decide_eq_true q3, decide_eq_true (show i % (s % 128) < 64 by omega)] at hb
      simpa using hb
  · rw [sub_hi hv (by omega), sub_hi hv' (by omega)]
theorem ev_szs {a : Nat} (w : wfB B) (hS : bsz B ≤ 16) (ha : a < bma B) : szs (bso B a) ≤ 64 ∧ ev B J a &&& bm (szs (bso B a)) = ev B J a := by
  have sz : szs (bso B a) ≤ 64 := by
    by_cases q : 128 ≤ bso B a
    · have := (w.2.2.2.1 a ha).2.2 q; omega
    · have ok := wf_so w ha
      unfold okS at ok
      by_cases q0 : bso B a = 0
      · unfold szs; rw [if_pos q0]; omega
      · have := vec_sz (s := bso B a) (by omega) (by omega)
        unfold szs
        rw [if_neg q0, show bso B a / 128 = 0 by omega]
        omega
  refine ⟨sz, ?_⟩
  have := ev_sub (J := J) w ha
  unfold bful at this
  rw [Nat.min_eq_right sz] at this
  exact this
theorem r_areEqual {a b : Nat} (h : RR B σ) (w : wfB B) (hS : bsz B ≤ 16) (ha : a < bma B) (hb : b < bma B) (hs : bso B a = bso B b) (na : now B J σ a) (nb : now B J σ b) (k : ∀ r : Bool, (r = true ↔ ev B J a = ev B J b) → Q (.inl (some (.int (bI r)))) σ) : wp_VectorSolverModel_areEqual Q σ (nI a) (nI b) := by
  have hm := wf_ma w
  have ok := wf_so w ha
  have nc := ncl_le ok
  have ea := ev_szs (J := J) w hS ha
  have eb := ev_szs (J := J) w hS hb
  rw [← hs] at eb
  have bt : ∀ r : Bool, (bI r = nI 0 ∨ bI r = nI 1) := fun r => by cases r <;> decide
  unfold wp_VectorSolverModel_areEqual
  have key := loop_i (σ := Bool) (fun n c r => w_VectorSolverModel_areEqual_5 Q n (nI a) (nI b) (bI r) (nI c) σ) (fun c r => (r = true → ∀ d, d < c → cel (bso B a) (ev B J a) d = cel (bso B a) (ev B J b) d) ∧ (r = false → ev B J a ≠ ev B J b)) (ncl (bso B a)) (fun n r hI => ?_) (fun n c r hc hI hs2 => ?_)
  · exact ⟨_, key (ncl (bso B a) + 1) 0 true (by omega) (by omega) ⟨fun _ d hd => absurd hd (by omega), fun q => by cases q⟩⟩
  · unfold w_VectorSolverModel_areEqual_5
    refine r_cells h w ha ?_
    rw [xqi_i]
    refine ⟨fun _ => ⟨bt r, k r ⟨fun q => cel_ext ok ea.1 ea.2 eb.2 (hI.1 q), fun q => ?_⟩⟩, fun z => absurd (Int32.le_refl _) z⟩
    cases r with
    | true => rfl
    | false => exact absurd q (hI.2 rfl)
  · unfold w_VectorSolverModel_areEqual_5
    refine r_cells h w ha ?_
    rw [xqi_i]
    simp (disch := omega) only [i32_lit, l64_lit, lc_eq, lc_ge, lc_le, lc_gt, lc_lt, jL_inj, jL_add, jL_sub, jL_mul, jL_neg, jL_and, jL_or, jL_xor, jL_mone, BitVec.xor_allOnes, nI_clamp, nI_ltI, nI_leI, nI_eq, nI_1, nI_add, nI_sub, nI_addm, nI_mul, vp_in_n, xi_pi, xi_pl, xl_pi, xl_pl, xb_pi, xb_pl, xqi_i, xql_l, xqv_v, xqi_e, xql_e, xqv_e, forall_eq, true_and, and_true, bI_0]
    refine ⟨fun z => absurd z (by omega), fun _ => ⟨fun e => ⟨Or.inl e, k r ⟨fun q => (by rw [e] at q; cases q), fun q => absurd q (hI.2 e)⟩⟩, fun e => ?_⟩⟩
    have rt : r = true := by cases r with
      | true => rfl
      | false => exact absurd rfl e
    have hb2 : xl σ 81 (64 * b + c) = jL (cel (bso B a) (ev B J b) c) := by rw [hs]; exact nb c (by rw [← hs]; exact hc)
    simp (disch := omega) only [i32_lit, l64_lit, lc_eq, lc_ge, lc_le, lc_gt, lc_lt, jL_inj, jL_add, jL_sub, jL_mul, jL_neg, jL_and, jL_or, jL_xor, jL_mone, BitVec.xor_allOnes, nI_clamp, nI_ltI, nI_leI, nI_eq, nI_1, nI_add, nI_sub, nI_addm, nI_mul, vp_in_n, xi_pi, xi_pl, xl_pi, xl_pl, xb_pi, xb_pl, xqi_i, xql_l, xqv_v, xqi_e, xql_e, xqv_e, forall_eq, true_and, and_true, na c hc, hb2]
    refine ⟨fun q => hs2 false ⟨fun n => (by cases n), fun _ n => q (by rw [n])⟩, fun q => hs2 true ⟨fun _ d hd => ?_, fun n => by cases n⟩⟩
    by_cases e2 : d = c
    · rw [e2]; exact q
    · exact hI.1 rt d (by omega)
/-- the cells of t become those of u -/
theorem r_copy {a u : Nat} {v : BitVec 64} (h : RR B σ) (w : wfB B) (ha : a < bma B) (hu : u < bma B) (hne : a ≠ u) (nu : ∀ c, c < ncl (bso B a) → xl σ 81 (64 * u + c) = jL (cel (bso B a) v c))
    (k : ∀ σ', oN [] [81] σ σ' → (∀ c, c < ncl (bso B a) → xl σ' 81 (64 * a + c) = jL (cel (bso B a) v c)) → (∀ j, (j < 64 * a ∨ 64 * a + 64 ≤ j) → xl σ' 81 j = xl σ 81 j) → Q (.inl none) σ') : wp_VectorSolverModel_copy Q σ (nI a) (nI u) := by
  have hm := wf_ma w
  have nc := ncl_le (wf_so w ha)
  unfold wp_VectorSolverModel_copy
  have key := loop_i (σ := xS) (fun n c s => w_VectorSolverModel_copy_2 Q n (nI a) (nI u) (nI c) s) (fun c s => oN [] [81] σ s ∧ (∀ d, d < c → xl s 81 (64 * a + d) = jL (cel (bso B a) v d)) ∧ ∀ j, (j < 64 * a ∨ 64 * a + 64 ≤ j) → xl s 81 j = xl σ 81 j) (ncl (bso B a)) (fun n s hI => ?_) (fun n c s hc hI hs => ?_)
  · exact ⟨_, key (ncl (bso B a) + 1) 0 σ (by omega) (by omega) ⟨oN.refl _ _ _, fun d hd => absurd hd (by omega), fun _ _ => rfl⟩⟩
  · unfold w_VectorSolverModel_copy_2
    refine r_cells (h.keep hI.1 (by decide) (by decide)) w ha ?_
    rw [xqi_i]
    exact ⟨fun _ => k s hI.1 hI.2.1 hI.2.2, fun z => absurd (Int32.le_refl _) z⟩
  · obtain ⟨h1, h2, h3⟩ := hI
    unfold w_VectorSolverModel_copy_2
    refine r_cells (h.keep h1 (by decide) (by decide)) w ha ?_
    rw [xqi_i]
    simp (disch := omega) only [i32_lit, l64_lit, lc_eq, lc_ge, lc_le, lc_gt, lc_lt, jL_inj, jL_add, jL_sub, jL_mul, jL_neg, jL_and, jL_or, jL_xor, jL_mone, BitVec.xor_allOnes, nI_clamp, nI_ltI, nI_leI, nI_eq, nI_1, nI_add, nI_sub, nI_addm, nI_mul, vp_in_n, xi_pi, xi_pl, xl_pi, xl_pl, xb_pi, xb_pl, xqi_i, xql_l, xqv_v, xqi_e, xql_e, xqv_e, forall_eq, true_and, and_true]
    refine ⟨fun z => absurd z (by omega), fun _ => ?_⟩
    have e : xl s 81 (64 * u + c) = jL (cel (bso B a) v c) := by rw [h3 (64 * u + c) (by omega)]; exact nu c hc
    simp (disch := omega) only [i32_lit, l64_lit, lc_eq, lc_ge, lc_le, lc_gt, lc_lt, jL_inj, jL_add, jL_sub, jL_mul, jL_neg, jL_and, jL_or, jL_xor, jL_mone, BitVec.xor_allOnes, nI_clamp, nI_ltI, nI_leI, nI_eq, nI_1, nI_add, nI_sub, nI_addm, nI_mul, vp_in_n, xi_pi, xi_pl, xl_pi, xl_pl, xb_pi, xb_pl, xqi_i, xql_l, xqv_v, xqi_e, xql_e, xqv_e, forall_eq, true_and, and_true, e]
    refine hs _ ⟨h1.trans (oN.pl s 81 _ _), fun d hd => ?_, fun j hj => ?_⟩
    · rw [xl_pl]
      by_cases c2 : d = c
      · rw [if_pos ⟨rfl, by omega⟩, c2]
      · rw [if_neg (fun z => c2 (by omega))]; exact h2 d (by omega)
    · rw [xl_pl, if_neg (fun z => by omega)]; exact h3 j hj
end RBK
