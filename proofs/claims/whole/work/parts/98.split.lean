/-! THE CLASS SPLITS ITS TEXT -/
def oI (x : Nat) : Int32 := nI x - nI 70000
theorem oI_int {x : Nat} (h : x < 200000) : (oI x).toInt = (x : Int) - 70000 := by
  unfold oI
  rw [Int32.toInt_sub, nI_toInt (by omega), nI_toInt (by decide)]
  apply Int.bmod_eq_of_le <;> omega
theorem oI_s (x : Nat) : oI x + nI 1 = oI (x + 1) := by
  unfold oI
  rw [Int32.sub_eq_add_neg, Int32.sub_eq_add_neg, ← nI_add, Int32.add_assoc, Int32.add_comm (-nI 70000), ← Int32.add_assoc]
theorem oI_p {x : Nat} (h : 1 ≤ x) : oI x - nI 1 = oI (x - 1) := by
  have := oI_s (x - 1)
  rw [show x - 1 + 1 = x by omega] at this
  rw [← this, Int32.add_sub_cancel]
theorem oI_le {x : Nat} (h : x < 200000) : (oI x ≤ nI 60) = (x ≤ 70060) := by
  apply propext
  rw [Int32.le_iff_toInt_le, oI_int h, nI_toInt (by decide)]
  omega
theorem oI_eq {x : Nat} (h : x < 200000) : (oI x = nI 60) = (x = 70060) := by
  apply propext
  rw [← Int32.toInt_inj, oI_int h, nI_toInt (by decide)]
  omega
def TB (σ : xS) (c : Nat → Nat) (l : Nat) : Prop := xi σ 1 1 = nI l ∧ l ≤ 65536 ∧ (∀ i, i < l → c i < 256 ∧ xi σ 2 i = sb (c i)) ∧ ∀ n, n ≤ 47 → xi σ 4 n = nI (rf n)
/-- only places J of the text's record change -/
def oJ (J : List Nat) (σ σ' : xS) : Prop := (∀ a b, ¬ (a = 1 ∧ b ∈ J) → xi σ' a b = xi σ a b) ∧ (∀ a b, xl σ' a b = xl σ a b) ∧ xb σ' = xb σ
theorem oJ.refl (J : List Nat) (σ : xS) : oJ J σ σ := ⟨fun _ _ _ => rfl, fun _ _ => rfl, rfl⟩
theorem oJ.trans {J : List Nat} {σ σ' σ2 : xS} (h : oJ J σ σ') (h2 : oJ J σ' σ2) : oJ J σ σ2 := ⟨fun a b q => (h2.1 a b q).trans (h.1 a b q), fun a b => (h2.2.1 a b).trans (h.2.1 a b), h2.2.2.trans h.2.2⟩
theorem oJ.up {J J' : List Nat} {σ σ' : xS} (h : oJ J σ σ') (q : ∀ x ∈ J, x ∈ J') : oJ J' σ σ' := ⟨fun a b z => h.1 a b (fun y => z ⟨y.1, q b y.2⟩), h.2.1, h.2.2⟩
theorem oJ.pi {J : List Nat} (σ : xS) (j : Nat) (x : Int32) (h : j ∈ J) : oJ J σ (xpi σ 1 j x) := ⟨fun a b q => by rw [xi_pi, if_neg (fun z => q ⟨z.1, by rw [z.2]; exact h⟩)], fun _ _ => rfl, rfl⟩
theorem oJ.at {J : List Nat} {σ σ' : xS} (h : oJ J σ σ') {b : Nat} (hb : b ∉ J) : xi σ' 1 b = xi σ 1 b := h.1 1 b (fun z => hb z.2)
theorem TB.keep {J : List Nat} {σ σ' : xS} {c : Nat → Nat} {l : Nat} (T : TB σ c l) (h : oJ J σ σ') (hJ : 1 ∉ J) : TB σ' c l :=
  ⟨(h.at hJ).trans T.1, T.2.1, fun i hi => ⟨(T.2.2.1 i hi).1, (h.1 2 i (fun z => absurd z.1 (by decide))).trans (T.2.2.1 i hi).2⟩, fun n hn => (h.1 4 n (fun z => absurd z.1 (by decide))).trans (T.2.2.2 n hn)⟩
theorem dgv_lt {b v : Nat} (h : dgv b = some v) : v < 16 := by
  unfold dgv at h
  split at h
  · cases h; omega
  · split at h
    · cases h; omega
    · split at h
      · cases h; omega
      · cases h
section SPLIT
variable {σ σ' : xS} {Q : xO → xS → Prop} {c : Nat → Nat} {l p q f o : Nat}
theorem v_skip (T : TB σ c l) (hp : p ≤ l) (e : xi σ 1 11 = nI p) (k : ∀ σ', oJ [11] σ σ' → xi σ' 1 11 = nI (skp c l (l - p) false p) → Q (.inl none) σ') : wp_Text_skipBlanks Q σ := by
  have l1 := T.2.1
  obtain ⟨X, hX⟩ : ∃ X, X = skp c l (l - p) false p := ⟨_, rfl⟩
  rw [← hX] at k
  have key : ∀ n r p2 σ1, oJ [11] σ σ1 → xi σ1 1 11 = nI p2 → p2 + n = l → X = skp c l n r p2 → w_Text_skipBlanks_2 Q (n + 1) (bI r) σ1 := by
    intro n
    induction n with
    | zero =>
      intro r p2 σ1 o1 e1 h hs
      have T1 := T.keep o1 (by decide)
      unfold w_Text_skipBlanks_2
      rw [e1, T1.1]
      simp (disch := omega) only [i32_lit, l64_lit, lc_eq, lc_ge, lc_le, lc_gt, lc_lt, jL_inj, jL_add, jL_sub, jL_mul, jL_neg, jL_and, jL_or, jL_xor, jL_mone, BitVec.xor_allOnes, nI_clamp, nI_ltI, nI_leI, nI_eq, nI_1, nI_add, nI_sub, nI_addm, nI_mul, vp_in_n, xi_pi, xi_pl, xl_pi, xl_pl, xb_pi, xb_pl, xqi_i, xql_l, xqv_v, xqi_e, xql_e, xqv_e, forall_eq, true_and, and_true]
      refine ⟨fun _ => k σ1 o1 (by rw [e1, hs]; rfl), fun z => absurd z (by omega)⟩
    | succ n ih =>
      intro r p2 σ1 o1 e1 h hs
      have T1 := T.keep o1 (by decide)
      have b := T1.2.2.1 p2 (by omega)
      have st : ∀ s2 : xS, s2 = xpi σ1 1 11 (nI (p2 + 1)) → oJ [11] σ s2 ∧ xi s2 1 11 = nI (p2 + 1) := fun s2 e2 => by
        rw [e2]
        exact ⟨o1.trans (oJ.pi _ _ _ (by decide)), by rw [xi_pi, if_pos ⟨rfl, rfl⟩]⟩
      unfold skp at hs
      rw [if_pos (by omega)] at hs
      unfold w_Text_skipBlanks_2 w_Text_skipBlanks_68
      rw [e1, T1.1]
      simp (disch := omega) only [i32_lit, l64_lit, lc_eq, lc_ge, lc_le, lc_gt, lc_lt, jL_inj, jL_add, jL_sub, jL_mul, jL_neg, jL_and, jL_or, jL_xor, jL_mone, BitVec.xor_allOnes, nI_clamp, nI_ltI, nI_leI, nI_eq, nI_1, nI_add, nI_sub, nI_addm, nI_mul, vp_in_n, xi_pi, xi_pl, xl_pi, xl_pl, xb_pi, xb_pl, xqi_i, xql_l, xqv_v, xqi_e, xql_e, xqv_e, forall_eq, true_and, and_true, b.2, sb_eq b.1, bI_0]
      have go : ∀ r', X = skp c l n r' (p2 + 1) → w_Text_skipBlanks_2 Q (n + 1) (bI r') (xpi σ1 1 11 (nI (p2 + 1))) := fun r' hs' => ih r' (p2 + 1) _ (st _ rfl).1 (st _ rfl).2 (by omega) hs'
      refine ⟨fun z => absurd z (by omega), fun _ => ⟨fun z10 => ⟨fun z59 => ⟨fun zr => ?_, fun zr => ⟨fun z => ?_, fun z9 => ⟨fun z => ?_, fun z13 => ⟨fun z => ?_, fun z32 => ?_⟩⟩⟩⟩, fun z59 => ?_⟩, fun z10 => ?_⟩⟩
      · refine go r ?_
        rw [if_neg z10, if_neg z59, if_pos (.inl (by cases r with | true => rfl | false => exact absurd rfl zr))] at hs
        exact hs
      · refine go r ?_
        rw [if_neg z10, if_neg z59, if_pos (by omega)] at hs
        exact hs
      · refine go r ?_
        rw [if_neg z10, if_neg z59, if_pos (by omega)] at hs
        exact hs
      · refine go r ?_
        rw [if_neg z10, if_neg z59, if_pos (by omega)] at hs
        exact hs
      · rw [if_neg z10, if_neg z59, if_neg (by rw [zr]; simp only [Bool.false_eq_true, false_or]; omega)] at hs
        exact k σ1 o1 (by rw [e1, hs])
      · rw [if_neg z10, if_pos z59] at hs
        exact go true hs
      · rw [if_pos z10] at hs
        exact go false hs
  unfold wp_Text_skipBlanks
  exact ⟨_, key (l - p) false p σ (oJ.refl _ _) e (by omega) hX⟩
theorem v_hasD (T : TB σ c l) (hq : q ≤ l) (hp : p ≤ q) (e : xi σ 1 11 = nI q) {b : Nat} (hb : b ≤ 16) (k : Q (.inl (some (.int (bI (alD c b p q))))) σ) : wp_Text_hasDigits Q σ (nI p) (nI b) := by
  have l1 := T.2.1
  unfold wp_Text_hasDigits
  have key := loop_i (σ := Unit) (fun n j _ => w_Text_hasDigits_2 Q n (nI b) (nI j) σ) (fun j _ => p ≤ j ∧ ∀ i, i < j → p ≤ i → dlt (dgv (c i)) b = true) q (fun n _ hI => ?_) (fun n j _ hj hI hs => ?_)
  · exact ⟨q + 1, key (q + 1) p () hp (by omega) ⟨Nat.le_refl _, fun i h1 h2 => absurd h1 (by omega)⟩⟩
  · unfold w_Text_hasDigits_2
    rw [e]
    simp (disch := omega) only [i32_lit, l64_lit, lc_eq, lc_ge, lc_le, lc_gt, lc_lt, jL_inj, jL_add, jL_sub, jL_mul, jL_neg, jL_and, jL_or, jL_xor, jL_mone, BitVec.xor_allOnes, nI_clamp, nI_ltI, nI_leI, nI_eq, nI_1, nI_add, nI_sub, nI_addm, nI_mul, vp_in_n, xi_pi, xi_pl, xl_pi, xl_pl, xb_pi, xb_pl, xqi_i, xql_l, xqv_v, xqi_e, xql_e, xqv_e, forall_eq, true_and, and_true]
    refine ⟨fun _ => ?_, fun z => absurd z (by omega)⟩
    have : alD c b p q = true := decide_eq_true hI.2
    rw [this] at k
    exact k
  · have b1 := T.2.2.1 j (by omega)
    unfold w_Text_hasDigits_2
    rw [e]
    simp (disch := omega) only [i32_lit, l64_lit, lc_eq, lc_ge, lc_le, lc_gt, lc_lt, jL_inj, jL_add, jL_sub, jL_mul, jL_neg, jL_and, jL_or, jL_xor, jL_mone, BitVec.xor_allOnes, nI_clamp, nI_ltI, nI_leI, nI_eq, nI_1, nI_add, nI_sub, nI_addm, nI_mul, vp_in_n, xi_pi, xi_pl, xl_pi, xl_pl, xb_pi, xb_pl, xqi_i, xql_l, xqv_v, xqi_e, xql_e, xqv_e, forall_eq, true_and, and_true, b1.2]
    refine ⟨fun z => absurd z (by omega), fun z => ?_⟩
    refine v_digit b1.1 ?_
    rw [xqi_i]
    have no : p ≤ j → dlt (dgv (c j)) b = false → alD c b p q = false := fun h1 h2 => decide_eq_false (fun h => by
      have := h j hj h1
      rw [h2] at this
      cases this)
    have hpj := hI.1
    cases d : dgv (c j) with
    | none =>
      rw [no hpj (by rw [d]; rfl)] at k
      exact ⟨fun _ => k, fun n => absurd (by decide) n⟩
    | some v =>
      have v1 := dgv_lt d
      have sv : supI (some v) = nI v := rfl
      rw [sv]
      simp (disch := omega) only [i32_lit, l64_lit, lc_eq, lc_ge, lc_le, lc_gt, lc_lt, jL_inj, jL_add, jL_sub, jL_mul, jL_neg, jL_and, jL_or, jL_xor, jL_mone, BitVec.xor_allOnes, nI_clamp, nI_ltI, nI_leI, nI_eq, nI_1, nI_add, nI_sub, nI_addm, nI_mul, vp_in_n, xi_pi, xi_pl, xl_pi, xl_pl, xb_pi, xb_pl, xqi_i, xql_l, xqv_v, xqi_e, xql_e, xqv_e, forall_eq, true_and, and_true]
      refine ⟨fun z => absurd z (by omega), fun _ => ⟨fun z => ?_, fun z => ?_⟩⟩
      · refine hs () ⟨by omega, fun i h1 h2 => ?_⟩
        by_cases ei : i = j
        · rw [ei, d]; exact decide_eq_true z
        · exact hI.2 i (by omega) h2
      · rw [no hpj (by rw [d]; exact decide_eq_false z)] at k
        exact k
theorem v_isRes {n : Nat} (T : TB σ c l) (hq : q ≤ l) (hp : p ≤ q) (e0 : xi σ 1 10 = nI p) (e : xi σ 1 11 = nI q) (hn : n < 47) (hl : q - p = (rws n).length) (k : Q (.inl (some (.int (bI (decide (wtx c p q = rws n)))))) σ) : wp_Text_isReserved Q σ (nI (rf n)) := by
  have l1 := T.2.1
  obtain ⟨g1, g2, g3, g4, g5⟩ := rws_f n hn
  unfold wp_Text_isReserved
  rw [e0]
  intro x1 ex
  subst ex
  have key := loop_i (σ := Unit) (fun m j _ => w_Text_isReserved_5 Q m (nI (rf n)) (nI j) σ) (fun j _ => p ≤ j ∧ ∀ i, p + i < j → c (p + i) = (rws n).getD i 0) q (fun m _ hI => ?_) (fun m j _ hj hI hs => ?_)
  · exact ⟨q + 1, key (q + 1) p () hp (by omega) ⟨Nat.le_refl _, fun i h1 => absurd h1 (by omega)⟩⟩
  · unfold w_Text_isReserved_5
    rw [e]
    simp (disch := omega) only [i32_lit, l64_lit, lc_eq, lc_ge, lc_le, lc_gt, lc_lt, jL_inj, jL_add, jL_sub, jL_mul, jL_neg, jL_and, jL_or, jL_xor, jL_mone, BitVec.xor_allOnes, nI_clamp, nI_ltI, nI_leI, nI_eq, nI_1, nI_add, nI_sub, nI_addm, nI_mul, vp_in_n, xi_pi, xi_pl, xl_pi, xl_pl, xb_pi, xb_pl, xqi_i, xql_l, xqv_v, xqi_e, xql_e, xqv_e, forall_eq, true_and, and_true]
    refine ⟨fun _ => ?_, fun z => absurd z (by omega)⟩
    rw [decide_eq_true (wtx_eq.mpr ⟨hl, fun i hi => hI.2 i (by omega)⟩)] at k
    exact k
  · have b1 := T.2.2.1 j (by omega)
    unfold w_Text_isReserved_5
    rw [e, e0]
    simp (disch := omega) only [i32_lit, l64_lit, lc_eq, lc_ge, lc_le, lc_gt, lc_lt, jL_inj, jL_add, jL_sub, jL_mul, jL_neg, jL_and, jL_or, jL_xor, jL_mone, BitVec.xor_allOnes, nI_clamp, nI_ltI, nI_leI, nI_eq, nI_1, nI_add, nI_sub, nI_addm, nI_mul, vp_in_n, xi_pi, xi_pl, xl_pi, xl_pl, xb_pi, xb_pl, xqi_i, xql_l, xqv_v, xqi_e, xql_e, xqv_e, forall_eq, true_and, and_true, b1.2]
    refine ⟨fun z => absurd z (by omega), fun z => ?_⟩
    rw [show rf n + j - p = rf n + (j - p) by omega]
    refine p_charAt0 (by omega) ?_
    rw [xqi_i]
    have cl := (xch_0 (rf n + (j - p)) (by omega)).2.2
    simp (disch := omega) only [i32_lit, l64_lit, lc_eq, lc_ge, lc_le, lc_gt, lc_lt, jL_inj, jL_add, jL_sub, jL_mul, jL_neg, jL_and, jL_or, jL_xor, jL_mone, BitVec.xor_allOnes, nI_clamp, nI_ltI, nI_leI, nI_eq, nI_1, nI_add, nI_sub, nI_addm, nI_mul, vp_in_n, xi_pi, xi_pl, xl_pi, xl_pl, xb_pi, xb_pl, xqi_i, xql_l, xqv_v, xqi_e, xql_e, xqv_e, forall_eq, true_and, and_true, sb_eq b1.1]
    have gj := g5 (j - p) (by omega)
    refine ⟨fun z => hs () ⟨by omega, fun i hi => ?_⟩, fun z => ?_⟩
    · by_cases ei : p + i = j
      · rw [ei, z, gj, show i = j - p by omega]
      · exact hI.2 i (by omega)
    · have : ¬ wtx c p q = rws n := fun h => by
        have := (wtx_eq.mp h).2 (j - p) (by omega)
        rw [show p + (j - p) = j by omega] at this
        rw [this, gj] at z
        exact z rfl
      rw [decide_eq_false this] at k
      exact k
theorem v_findRes (T : TB σ c l) (hq : q ≤ l) (hp : p ≤ q) (e0 : xi σ 1 10 = nI p) (e : xi σ 1 11 = nI q) (k : Q (.inl (some (.int (supI (rsv (wtx c p q)))))) σ) : wp_Text_findReserved Q σ := by
  have l1 := T.2.1
  unfold wp_Text_findReserved
  have key := loop_i (σ := Unit) (fun m j _ => w_Text_findReserved_2 Q m (nI j) σ) (fun j _ => ∀ i, i < j → rws i ≠ wtx c p q) 47 (fun m _ hI => ?_) (fun m j _ hj hI hs => ?_)
  · exact ⟨48, key 48 0 () (by decide) (by decide) (fun i h => absurd h (by omega))⟩
  · unfold w_Text_findReserved_2
    refine ⟨fun _ => ?_, fun z => absurd (Int32.le_refl _) z⟩
    rw [rsv_no hI] at k
    exact k
  · obtain ⟨g1, g2, g3, g4, g5⟩ := rws_f j hj
    have r1 := T.2.2.2 j (by omega)
    have r2 := T.2.2.2 (j + 1) (by omega)
    have r3 : rf (j + 1) = rf j + (rws j).length + 1 := rfl
    rw [r3] at r2
    unfold w_Text_findReserved_2
    rw [e, e0]
    simp (disch := omega) only [i32_lit, l64_lit, lc_eq, lc_ge, lc_le, lc_gt, lc_lt, jL_inj, jL_add, jL_sub, jL_mul, jL_neg, jL_and, jL_or, jL_xor, jL_mone, BitVec.xor_allOnes, nI_clamp, nI_ltI, nI_leI, nI_eq, nI_1, nI_add, nI_sub, nI_addm, nI_mul, vp_in_n, xi_pi, xi_pl, xl_pi, xl_pl, xb_pi, xb_pl, xqi_i, xql_l, xqv_v, xqi_e, xql_e, xqv_e, forall_eq, true_and, and_true, r1, r2]
    have nx : rws j ≠ wtx c p q → ∀ i, i < j + 1 → rws i ≠ wtx c p q := fun h i hi => by
      by_cases ei : i = j
      · rw [ei]; exact h
      · exact hI i (by omega)
    refine ⟨fun z => absurd z (by omega), fun _ => ⟨fun z => hs () (nx (fun h => z ?_)), fun z => ?_⟩⟩
    · have := congrArg List.length h
      rw [wtx_len] at this
      omega
    · refine v_isRes T hq hp e0 e hj (by omega) ?_
      rw [xqi_i]
      simp (disch := omega) only [i32_lit, l64_lit, lc_eq, lc_ge, lc_le, lc_gt, lc_lt, jL_inj, jL_add, jL_sub, jL_mul, jL_neg, jL_and, jL_or, jL_xor, jL_mone, BitVec.xor_allOnes, nI_clamp, nI_ltI, nI_leI, nI_eq, nI_1, nI_add, nI_sub, nI_addm, nI_mul, vp_in_n, xi_pi, xi_pl, xl_pi, xl_pl, xb_pi, xb_pl, xqi_i, xql_l, xqv_v, xqi_e, xql_e, xqv_e, forall_eq, true_and, and_true, bI_0]
      refine ⟨fun z2 => hs () (nx (fun h => of_decide_eq_false z2 h.symm)), fun z2 => ?_⟩
      have : wtx c p q = rws j := by
        apply Classical.byContradiction
        intro h
        exact z2 (decide_eq_false h)
      rw [rsv_eq hj this.symm] at k
      exact k
theorem v_kow (T : TB σ c l) (hq : q ≤ l) (hp : p < q) (e0 : xi σ 1 10 = nI p) (e : xi σ 1 11 = nI q) (e12 : xi σ 1 12 = -1) (k : ∀ σ', oJ [12] σ σ' → xi σ' 1 12 = supI (if kow c p q = 5 then rsv (wtx c p q) else none) → Q (.inl (some (.int (nI (kow c p q))))) σ') : wp_Text_kindOfWord Q σ := by
  have l1 := T.2.1
  have b := T.2.2.1 p (by omega)
  have k' : kow c p q ≠ 5 → Q (.inl (some (.int (nI (kow c p q))))) σ := fun n => k σ (oJ.refl _ _) (by rw [e12, if_neg n]; rfl)
  unfold wp_Text_kindOfWord
  rw [e0]
  simp (disch := omega) only [i32_lit, l64_lit, lc_eq, lc_ge, lc_le, lc_gt, lc_lt, jL_inj, jL_add, jL_sub, jL_mul, jL_neg, jL_and, jL_or, jL_xor, jL_mone, BitVec.xor_allOnes, nI_clamp, nI_ltI, nI_leI, nI_eq, nI_1, nI_add, nI_sub, nI_addm, nI_mul, vp_in_n, xi_pi, xi_pl, xl_pi, xl_pl, xb_pi, xb_pl, xqi_i, xql_l, xqv_v, xqi_e, xql_e, xqv_e, forall_eq, true_and, and_true, b.2]
  refine v_dig b.1 ?_
  rw [xqi_i]
  cases d : dig (c p) with
  | true =>
    refine ⟨fun z => absurd z (by decide), fun _ => ?_⟩
    rw [e, e0]
    simp (disch := omega) only [i32_lit, l64_lit, lc_eq, lc_ge, lc_le, lc_gt, lc_lt, jL_inj, jL_add, jL_sub, jL_mul, jL_neg, jL_and, jL_or, jL_xor, jL_mone, BitVec.xor_allOnes, nI_clamp, nI_ltI, nI_leI, nI_eq, nI_1, nI_add, nI_sub, nI_addm, nI_mul, vp_in_n, xi_pi, xi_pl, xl_pi, xl_pl, xb_pi, xb_pl, xqi_i, xql_l, xqv_v, xqi_e, xql_e, xqv_e, forall_eq, true_and, and_true, sb_eq b.1]
    have w41 : (c p ≠ 48 ∨ q = p + 1) → w_Text_kindOfWord_41 Q (nI 1) σ := fun h => by
      unfold w_Text_kindOfWord_41
      refine ⟨fun z => absurd z (by decide), fun _ => ?_⟩
      rw [e0]
      refine v_hasD T hq (by omega) e (b := 10) (by decide) ?_
      rw [xqi_i]
      simp (disch := omega) only [i32_lit, l64_lit, lc_eq, lc_ge, lc_le, lc_gt, lc_lt, jL_inj, jL_add, jL_sub, jL_mul, jL_neg, jL_and, jL_or, jL_xor, jL_mone, BitVec.xor_allOnes, nI_clamp, nI_ltI, nI_leI, nI_eq, nI_1, nI_add, nI_sub, nI_addm, nI_mul, vp_in_n, xi_pi, xi_pl, xl_pi, xl_pl, xb_pi, xb_pl, xqi_i, xql_l, xqv_v, xqi_e, xql_e, xqv_e, forall_eq, true_and, and_true, bI_0]
      refine ⟨fun z => ?_, fun z => ?_⟩
      · have : kow c p q = 18 := by unfold kow; rw [if_pos d, if_neg (fun x => by rw [z] at x; cases x.2)]
        rw [this] at k'
        exact k' (by decide)
      · have a : alD c 10 p q = true := by cases x : alD c 10 p q with
          | true => rfl
          | false => exact absurd x z
        have : kow c p q = 2 := by unfold kow; rw [if_pos d, if_pos ⟨h, a⟩]
        rw [this] at k'
        exact k' (by decide)
    unfold w_Text_kindOfWord_36
    refine ⟨fun z => w41 (.inl z), fun z => ⟨fun z2 => ?_, fun z2 => w41 (.inr (by omega))⟩⟩
    have : kow c p q = 18 := by unfold kow; rw [if_pos d, if_neg (fun x => by omega)]
    rw [this] at k'
    unfold w_Text_kindOfWord_41
    exact ⟨fun _ => k' (by decide), fun n => absurd rfl n⟩
  | false =>
    refine ⟨fun _ => ?_, fun n => absurd (by decide) n⟩
    rw [e, e0]
    refine ⟨fun z => ?_, fun z => ?_⟩
    · rw [sb_eq b.1 (by decide)] at z
      generalize e4 : nI q - nI p - nI 2 = x4
      have ko : (if q < p + 3 then 18 else if c (p + 1) = 98 ∧ q ≤ p + 66 ∧ alD c 2 (p + 2) q = true then 3 else if c (p + 1) = 120 ∧ q ≤ p + 18 ∧ alD c 16 (p + 2) q = true then 4 else 18) = kow c p q := by
        unfold kow
        rw [if_neg (c := dig (c p) = true) (by rw [d]; decide), if_neg (c := c p ≠ 35) (by omega)]
      by_cases s : q < p + 3
      · rw [if_pos s] at ko
        rw [← ko] at k'
        have x0 : ¬ nI 1 ≤ x4 := by
          rw [← e4, nI_sub (by omega)]
          have : q - p = 1 ∨ q - p = 2 := by omega
          rcases this with y | y <;> rw [y] <;> decide
        refine ⟨fun n => absurd n x0, fun _ => ?_⟩
        unfold w_Text_kindOfWord_114
        refine ⟨fun _ => ?_, fun n => absurd n (by decide)⟩
        unfold w_Text_kindOfWord_143
        exact ⟨fun _ => k' (by decide), fun n => absurd n (by decide)⟩
      · rw [if_neg s] at ko
        have x0 : x4 = nI (q - p - 2) := by
          rw [← e4, nI_sub (by omega)]
          exact nI_sub (by omega)
        have b1 := T.2.2.1 (p + 1) (by omega)
        subst x0
        simp (disch := omega) only [i32_lit, l64_lit, lc_eq, lc_ge, lc_le, lc_gt, lc_lt, jL_inj, jL_add, jL_sub, jL_mul, jL_neg, jL_and, jL_or, jL_xor, jL_mone, BitVec.xor_allOnes, nI_clamp, nI_ltI, nI_leI, nI_eq, nI_1, nI_add, nI_sub, nI_addm, nI_mul, vp_in_n, xi_pi, xi_pl, xl_pi, xl_pl, xb_pi, xb_pl, xqi_i, xql_l, xqv_v, xqi_e, xql_e, xqv_e, forall_eq, true_and, and_true, b1.2]
        refine ⟨fun _ => ?_, fun n => absurd n (by omega)⟩
        have w143 : ¬ (c (p + 1) = 98 ∧ q ≤ p + 66 ∧ alD c 2 (p + 2) q = true) → w_Text_kindOfWord_143 Q (nI (q - p - 2)) (sb (c (p + 1))) σ := fun h => by
          rw [if_neg h] at ko
          unfold w_Text_kindOfWord_143
          rw [e0]
          simp (disch := omega) only [i32_lit, l64_lit, lc_eq, lc_ge, lc_le, lc_gt, lc_lt, jL_inj, jL_add, jL_sub, jL_mul, jL_neg, jL_and, jL_or, jL_xor, jL_mone, BitVec.xor_allOnes, nI_clamp, nI_ltI, nI_leI, nI_eq, nI_1, nI_add, nI_sub, nI_addm, nI_mul, vp_in_n, xi_pi, xi_pl, xl_pi, xl_pl, xb_pi, xb_pl, xqi_i, xql_l, xqv_v, xqi_e, xql_e, xqv_e, forall_eq, true_and, and_true, sb_eq b1.1]
          refine ⟨fun y => ?_, fun y => ⟨fun y2 => ?_, fun y2 => ?_⟩⟩
          · rw [if_neg (fun x => y x.1)] at ko
            rw [← ko] at k'
            exact k' (by decide)
          · rw [if_neg (fun x => by omega)] at ko
            rw [← ko] at k'
            exact k' (by decide)
          · refine v_hasD T hq (by omega) e (b := 16) (by decide) ?_
            rw [xqi_i]
            simp (disch := omega) only [i32_lit, l64_lit, lc_eq, lc_ge, lc_le, lc_gt, lc_lt, jL_inj, jL_add, jL_sub, jL_mul, jL_neg, jL_and, jL_or, jL_xor, jL_mone, BitVec.xor_allOnes, nI_clamp, nI_ltI, nI_leI, nI_eq, nI_1, nI_add, nI_sub, nI_addm, nI_mul, vp_in_n, xi_pi, xi_pl, xl_pi, xl_pl, xb_pi, xb_pl, xqi_i, xql_l, xqv_v, xqi_e, xql_e, xqv_e, forall_eq, true_and, and_true, bI_0]
            refine ⟨fun y3 => ?_, fun y3 => ?_⟩
            · rw [if_neg (fun x => by rw [y3] at x; cases x.2.2)] at ko
              rw [← ko] at k'
              exact k' (by decide)
            · have a : alD c 16 (p + 2) q = true := by cases x : alD c 16 (p + 2) q with
                | true => rfl
                | false => exact absurd x y3
              rw [if_pos ⟨y, by omega, a⟩] at ko
              rw [← ko] at k'
              exact k' (by decide)
        unfold w_Text_kindOfWord_114
        rw [e0]
        simp (disch := omega) only [i32_lit, l64_lit, lc_eq, lc_ge, lc_le, lc_gt, lc_lt, jL_inj, jL_add, jL_sub, jL_mul, jL_neg, jL_and, jL_or, jL_xor, jL_mone, BitVec.xor_allOnes, nI_clamp, nI_ltI, nI_leI, nI_eq, nI_1, nI_add, nI_sub, nI_addm, nI_mul, vp_in_n, xi_pi, xi_pl, xl_pi, xl_pl, xb_pi, xb_pl, xqi_i, xql_l, xqv_v, xqi_e, xql_e, xqv_e, forall_eq, true_and, and_true, sb_eq b1.1]
        refine ⟨fun y => w143 (fun x => y x.1), fun y => ⟨fun y2 => w143 (fun x => by omega), fun y2 => ?_⟩⟩
        refine v_hasD T hq (by omega) e (b := 2) (by decide) ?_
        rw [xqi_i]
        simp (disch := omega) only [i32_lit, l64_lit, lc_eq, lc_ge, lc_le, lc_gt, lc_lt, jL_inj, jL_add, jL_sub, jL_mul, jL_neg, jL_and, jL_or, jL_xor, jL_mone, BitVec.xor_allOnes, nI_clamp, nI_ltI, nI_leI, nI_eq, nI_1, nI_add, nI_sub, nI_addm, nI_mul, vp_in_n, xi_pi, xi_pl, xl_pi, xl_pl, xb_pi, xb_pl, xqi_i, xql_l, xqv_v, xqi_e, xql_e, xqv_e, forall_eq, true_and, and_true, bI_0]
        refine ⟨fun y3 => w143 (fun x => by rw [y3] at x; cases x.2.2), fun y3 => ?_⟩
        have a : alD c 2 (p + 2) q = true := by cases x : alD c 2 (p + 2) q with
          | true => rfl
          | false => exact absurd x y3
        rw [if_pos ⟨y, by omega, a⟩] at ko
        rw [← ko] at k'
        exact k' (by decide)
    · rw [sb_eq b.1 (by decide)] at z
      have k5 : kow c p q = 5 := kow_5.mpr ⟨d, z⟩
      rw [k5, if_pos rfl] at k
      refine v_findRes T hq (by omega) e0 e ?_
      rw [xqi_i]
      exact k _ (oJ.pi _ _ _ (by decide)) (by rw [xi_pi, if_pos ⟨rfl, rfl⟩])
theorem v_cut (T : TB σ c l) (hf : f ≤ l) (e0 : xi σ 1 10 = nI f) (e : xi σ 1 11 = nI f) (e12 : xi σ 1 12 = -1) (e7 : xi σ 1 7 = oI o) (o1 : 1 ≤ o) (o2 : o < 150000)
    (k : ∀ σ', oJ [7, 11, 12] σ σ' → xi σ' 1 7 = oI (tk2 c l f o).2.2 → xi σ' 1 11 = nI (tk2 c l f o).2.1 → xi σ' 1 12 = supI (tk2 c l f o).1.2.2.2 → Q (.inl (some (.int (nI (tk2 c l f o).1.1)))) σ') : wp_Text_cutPiece Q σ := by
  have l1 := T.2.1
  obtain ⟨t, ht⟩ : ∃ t, t = tk2 c l f o := ⟨_, rfl⟩
  rw [← ht] at k
  unfold tk2 at ht
  unfold wp_Text_cutPiece
  rw [e, T.1]
  refine ⟨fun z => ?_, fun z => ?_⟩
  · have z := (nI_ltI (by omega) (by omega)).mp z
    rw [if_neg (by omega)] at ht
    have b := T.2.2.1 f z
    refine ⟨vp_in_nI (by omega) (by decide), fun x1 ex => ?_⟩
    rw [nI_clamp (by omega), b.2] at ex
    subst ex
    rw [show (40 : Int32) = nI 40 from rfl, show (41 : Int32) = nI 41 from rfl, sb_eq b.1 (by decide), sb_eq b.1 (by decide)]
    refine ⟨fun z40 => ⟨fun z41 => ?_, fun z41 s7 e7' s8 e8 => ?_⟩, fun z40 s9 e9 s10 e10 => ?_⟩
    · rw [if_neg z40, if_neg z41] at ht
      obtain ⟨X, hX⟩ : ∃ X, X = wnd c l (l - f) f := ⟨_, rfl⟩
      rw [← hX] at ht
      have w := wnd_le (c := c) (l - f) f hf
      rw [← hX] at w
      have w133 : ∀ σ1, oJ [11] σ σ1 → xi σ1 1 11 = nI X → w_Text_cutPiece_133 Q σ1 := fun σ1 oo e1 => by
        have T1 := T.keep oo (by decide)
        unfold w_Text_cutPiece_133
        rw [e1, oo.at (by decide), e0]
        simp (disch := omega) only [i32_lit, l64_lit, lc_eq, lc_ge, lc_le, lc_gt, lc_lt, jL_inj, jL_add, jL_sub, jL_mul, jL_neg, jL_and, jL_or, jL_xor, jL_mone, BitVec.xor_allOnes, nI_clamp, nI_ltI, nI_leI, nI_eq, nI_1, nI_add, nI_sub, nI_addm, nI_mul, vp_in_n, xi_pi, xi_pl, xl_pi, xl_pl, xb_pi, xb_pl, xqi_i, xql_l, xqv_v, xqi_e, xql_e, xqv_e, forall_eq, true_and, and_true]
        refine ⟨fun y => ?_, fun y => ?_⟩
        · rw [if_neg y] at ht
          refine v_kow T1 w.2.1 (by omega) ((oo.at (by decide)).trans e0) e1 ((oo.at (by decide)).trans e12) (fun s2 o2 k2 => ?_)
          rw [xqi_i]
          rw [ht] at k
          exact k s2 ((oo.up (by decide)).trans (o2.up (by decide))) (((o2.at (by decide)).trans (oo.at (by decide))).trans e7) ((o2.at (by decide)).trans e1) k2
        · rw [if_pos y] at ht
          rw [ht] at k
          exact k σ1 (oo.up (by decide)) ((oo.at (by decide)).trans e7) (e1.trans (by rw [y])) ((oo.at (by decide)).trans e12)
      have key : ∀ n p2 σ1, oJ [11] σ σ1 → xi σ1 1 11 = nI p2 → p2 + n = l → X = wnd c l n p2 → w_Text_cutPiece_94 Q (n + 1) σ1 := by
        intro n
        induction n with
        | zero =>
          intro p2 σ1 oo e1 h hs
          have T1 := T.keep oo (by decide)
          unfold w_Text_cutPiece_94
          rw [e1, T1.1]
          simp (disch := omega) only [i32_lit, l64_lit, lc_eq, lc_ge, lc_le, lc_gt, lc_lt, jL_inj, jL_add, jL_sub, jL_mul, jL_neg, jL_and, jL_or, jL_xor, jL_mone, BitVec.xor_allOnes, nI_clamp, nI_ltI, nI_leI, nI_eq, nI_1, nI_add, nI_sub, nI_addm, nI_mul, vp_in_n, xi_pi, xi_pl, xl_pi, xl_pl, xb_pi, xb_pl, xqi_i, xql_l, xqv_v, xqi_e, xql_e, xqv_e, forall_eq, true_and, and_true]
          have hs : X = p2 := hs
          exact ⟨fun _ => w133 σ1 oo (by rw [e1, hs]), fun z => absurd z (by omega)⟩
        | succ n ih =>
          intro p2 σ1 oo e1 h hs
          have T1 := T.keep oo (by decide)
          have b2 := T1.2.2.1 p2 (by omega)
          unfold wnd at hs
          unfold w_Text_cutPiece_94
          rw [e1, T1.1]
          simp (disch := omega) only [i32_lit, l64_lit, lc_eq, lc_ge, lc_le, lc_gt, lc_lt, jL_inj, jL_add, jL_sub, jL_mul, jL_neg, jL_and, jL_or, jL_xor, jL_mone, BitVec.xor_allOnes, nI_clamp, nI_ltI, nI_leI, nI_eq, nI_1, nI_add, nI_sub, nI_addm, nI_mul, vp_in_n, xi_pi, xi_pl, xl_pi, xl_pl, xb_pi, xb_pl, xqi_i, xql_l, xqv_v, xqi_e, xql_e, xqv_e, forall_eq, true_and, and_true, b2.2]
          refine ⟨fun z => absurd z (by omega), fun _ => ?_⟩
          refine v_isWord b2.1 ?_
          rw [xqi_i]
          simp (disch := omega) only [i32_lit, l64_lit, lc_eq, lc_ge, lc_le, lc_gt, lc_lt, jL_inj, jL_add, jL_sub, jL_mul, jL_neg, jL_and, jL_or, jL_xor, jL_mone, BitVec.xor_allOnes, nI_clamp, nI_ltI, nI_leI, nI_eq, nI_1, nI_add, nI_sub, nI_addm, nI_mul, vp_in_n, xi_pi, xi_pl, xl_pi, xl_pl, xb_pi, xb_pl, xqi_i, xql_l, xqv_v, xqi_e, xql_e, xqv_e, forall_eq, true_and, and_true, bI_0]
          refine ⟨fun y => ?_, fun y => ?_⟩
          · rw [if_neg (fun x => by rw [y] at x; cases x.2)] at hs
            exact w133 σ1 oo (by rw [e1, hs])
          · have a : isW (c p2) = true := by cases x : isW (c p2) with
              | true => rfl
              | false => exact absurd x y
            rw [if_pos ⟨by omega, a⟩] at hs
            rw [e1]
            simp (disch := omega) only [i32_lit, l64_lit, lc_eq, lc_ge, lc_le, lc_gt, lc_lt, jL_inj, jL_add, jL_sub, jL_mul, jL_neg, jL_and, jL_or, jL_xor, jL_mone, BitVec.xor_allOnes, nI_clamp, nI_ltI, nI_leI, nI_eq, nI_1, nI_add, nI_sub, nI_addm, nI_mul, vp_in_n, xi_pi, xi_pl, xl_pi, xl_pl, xb_pi, xb_pl, xqi_i, xql_l, xqv_v, xqi_e, xql_e, xqv_e, forall_eq, true_and, and_true]
            exact ih (p2 + 1) _ (oo.trans (oJ.pi _ _ _ (by decide))) (by rw [xi_pi, if_pos ⟨rfl, rfl⟩]) (by omega) hs
      exact ⟨_, key (l - f) f σ (oJ.refl _ _) e (by omega) hX⟩
    · rw [if_neg z40, if_pos z41] at ht
      rw [ht] at k
      rw [e7, show (1 : Int32) = nI 1 from rfl, oI_p o1] at e7'
      subst e7'
      rw [xi_pi, if_neg (by decide), e, show (1 : Int32) = nI 1 from rfl] at e8
      subst e8
      exact k _ ((oJ.pi _ _ _ (by decide)).trans (oJ.pi _ _ _ (by decide))) (by rw [xi_pi, if_neg (by decide), xi_pi, if_pos ⟨rfl, rfl⟩]) (by rw [xi_pi, if_pos ⟨rfl, rfl⟩, nI_add]) (by rw [xi_pi, if_neg (by decide), xi_pi, if_neg (by decide)]; exact e12)
    · rw [if_pos z40] at ht
      rw [ht] at k
      rw [e7, show (1 : Int32) = nI 1 from rfl, oI_s] at e9
      subst e9
      rw [xi_pi, if_neg (by decide), e, show (1 : Int32) = nI 1 from rfl] at e10
      subst e10
      rw [xi_pi, if_neg (by decide), xi_pi, if_pos ⟨rfl, rfl⟩, show (60 : Int32) = nI 60 from rfl, oI_le (by omega)]
      have k0 := k _ ((oJ.pi σ 7 (oI (o + 1)) (by decide)).trans (oJ.pi _ 11 (nI f + nI 1) (by decide))) (by rw [xi_pi, if_neg (by decide), xi_pi, if_pos ⟨rfl, rfl⟩]) (by rw [xi_pi, if_pos ⟨rfl, rfl⟩, nI_add]) (by rw [xi_pi, if_neg (by decide), xi_pi, if_neg (by decide)]; exact e12)
      refine ⟨fun y => ?_, fun y => ?_⟩
      · rw [if_pos (by omega)] at k0
        exact k0
      · rw [if_neg (by omega)] at k0
        exact k0
  · have z : ¬ f < l := fun y => z ((nI_ltI (by omega) (by omega)).mpr y)
    rw [if_pos (by omega)] at ht
    rw [ht] at k
    exact k σ (oJ.refl _ _) e7 e e12
end SPLIT
