/-! THE REFERENCE READS: an application's weight, and the whole of it -/
section RAP2
variable {c : Nat → Nat} {l N : Nat} {B : Bk} {p h : Nat} {as : List Nat} {op hi lo beg i j so : Nat} {σ σ' : xS} {Q : xO → xS → Prop}
theorem r_szs {s : Nat} (ok : okS s) (k : Q (.inl (some (.int (nI (szs s))))) σ) : wp_VectorSolverModel_bitsOf Q σ (nI (s / 128)) (nI (s % 128)) := by
  unfold okS at ok
  unfold wp_VectorSolverModel_bitsOf
  rw [show (0 : Int32) = nI 0 from rfl, nI_leI (by omega) (by decide), nI_leI (by omega) (by decide), nI_shl _ (by omega)]
  unfold szs at k
  refine ⟨fun z => ⟨fun y => ?_, fun y => ?_⟩, fun z => ?_⟩
  · rw [if_pos (by omega)] at k; exact k
  · rw [if_neg (by omega), show s / 128 = 0 by omega, Nat.pow_zero, Nat.mul_one] at k; exact k
  · rw [if_neg (by omega)] at k; exact k
theorem r_fitM {n : Nat} (h1 : 10 ≤ op) (h2 : op ≤ 46) (hn : n < 2147483648) (k : Q (.inl (some (.int (bI (fitM op n))))) σ) : wp_VectorSolverModel_fitsMany Q σ (nI (opr op)) (nI n) := by
  have ov := opr_v h1 h2
  generalize opr op = o at ov ⊢
  have go : o < 64 := by split at ov <;> omega
  have c13 : op < 13 ∨ ¬ op < 13 := by omega
  unfold wp_VectorSolverModel_fitsMany
  simp (disch := omega) only [i32_lit, l64_lit, lc_eq, lc_ge, lc_le, lc_gt, lc_lt, jL_inj, jL_add, jL_sub, jL_mul, jL_neg, jL_and, jL_or, jL_xor, jL_mone, BitVec.xor_allOnes, nI_clamp, nI_ltI, nI_leI, nI_eq, nI_1, nI_add, nI_sub, nI_addm, nI_mul, vp_in_n, xi_pi, xi_pl, xl_pi, xl_pl, xb_pi, xb_pl, xqi_i, xql_l, xqv_v, xqi_e, xql_e, xqv_e, forall_eq, true_and, and_true]
  unfold fitM at k
  refine ⟨fun z => ?_, fun z => ?_, fun z => ?_, fun z => ?_⟩
  · rw [if_pos (by split at ov <;> omega)] at k
    refine ⟨fun y => ?_, fun y => ?_⟩
    · rw [decide_eq_false y] at k; exact k
    · rw [decide_eq_true y] at k; exact k
  · rw [if_neg (by split at ov <;> omega), if_pos (by split at ov <;> omega)] at k
    refine ⟨fun y => ?_, fun y => ?_⟩
    · rw [decide_eq_false (by omega)] at k; exact k
    · rw [decide_eq_true (by omega)] at k; exact k
  · rw [if_neg (by split at ov <;> omega), if_neg (by split at ov <;> omega), if_pos (by split at ov <;> omega)] at k
    refine ⟨fun y => ?_, fun y => ?_⟩
    · rw [decide_eq_false y] at k; exact k
    · rw [decide_eq_true y] at k; exact k
  · rw [if_neg (by split at ov <;> omega), if_neg (by split at ov <;> omega), if_neg (by split at ov <;> omega)] at k
    refine ⟨fun y => ?_, fun y => ?_⟩
    · rw [decide_eq_false y] at k; exact k
    · rw [decide_eq_true y] at k; exact k
theorem r_heavy (A : AP B p h as op hi lo beg σ) (fit : fitM op as.length = true) (h1 : 10 ≤ op) (h2 : op ≤ 46) (es : sor op as.length (fun i => bso B (as.getD i 0)) hi lo = some so) (hso : okS so) (h57 : xi σ 50 57 = nI (so % 128)) (k : Q (.inl (some (.int (nI (wgh op (szs so) (szs (bso B (as.getD 0 0))) as.length))))) σ) : wp_VectorSolverModel_heavy Q σ (nI (opr op)) (nI as.length) := by
  obtain ⟨d1, d2, d3, d4, d5⟩ := fitM_cs fit
  have n40 := A.2.1.2.2
  have ok0 := A.so (show 0 < as.length by omega)
  have ok0' := ok0
  unfold okS at ok0'
  have z0 := szs_le ok0
  have z1 := szs_le hso
  obtain ⟨c1, c2, c3, c4, c5, c6, c7, c8, c9⟩ := sor_cs es
  have so1 := hso
  unfold okS at so1
  have vw : 20 < op → op < 44 → szs (bso B (as.getD 0 0)) = bso B (as.getD 0 0) % 128 := fun q1 q2 => by
    have e := (c9 q1 q2).1
    rw [szs_v (by omega) (by omega)]
    omega
  have own : op = 10 ∨ op = 11 ∨ op = 12 ∨ op = 44 → szs so = so % 128 := fun q => by
    have b : 1 ≤ so ∧ so ≤ 64 := by
      rcases q with q | q | q | q
      · have e := c1 q; omega
      · have e := c2 (.inl q); omega
      · have e := c2 (.inr q); omega
      · have e := c6 q
        have n2 := d2 (by omega)
        have e0 := e.1 0 (by omega)
        refine ⟨?_, by omega⟩
        rw [e.2.2]
        obtain ⟨n, hn⟩ : ∃ n, as.length = n + 1 := ⟨as.length - 1, by omega⟩
        rw [hn, List.range_succ_eq_map]
        simp only [List.map_cons, List.sum_cons]
        omega
    rw [szs_v b.1 b.2]
    omega
  have ov := opr_v h1 h2
  generalize opr op = o at ov ⊢
  have go : o < 64 := by split at ov <;> omega
  have ob : o = op + 26 ∧ op < 13 ∨ o = op - 11 ∧ 13 ≤ op := by
    by_cases q : op < 13
    · rw [if_pos q] at ov; exact .inl ⟨ov, q⟩
    · rw [if_neg q] at ov; exact .inr ⟨ov, by omega⟩
  have W : ∀ v, wgh op (szs so) (szs (bso B (as.getD 0 0))) as.length = v → Q (.inl (some (.int (nI v)))) σ := fun v e => by rw [← e]; exact k
  have w58 : w_VectorSolverModel_heavy_58 Q (nI o) (nI as.length) (nI (bso B (as.getD 0 0) % 128)) (nI (szs (bso B (as.getD 0 0)))) σ ∨ (o = 2 ∨ o = 10 ∨ o < 7 ∨ (12 ≤ o ∧ o < 15)) := by
    by_cases q : o = 2 ∨ o = 10 ∨ o < 7 ∨ (12 ≤ o ∧ o < 15)
    · exact .inr q
    refine .inl ?_
    unfold w_VectorSolverModel_heavy_58
    simp (disch := omega) only [i32_lit, l64_lit, lc_eq, lc_ge, lc_le, lc_gt, lc_lt, jL_inj, jL_add, jL_sub, jL_mul, jL_neg, jL_and, jL_or, jL_xor, jL_mone, BitVec.xor_allOnes, nI_clamp, nI_ltI, nI_leI, nI_eq, nI_1, nI_add, nI_sub, nI_addm, nI_mul, vp_in_n, xi_pi, xi_pl, xl_pi, xl_pl, xb_pi, xb_pl, xqi_i, xql_l, xqv_v, xqi_e, xql_e, xqv_e, forall_eq, true_and, and_true]
    refine ⟨fun z => ?_, fun z => ?_, fun z => ?_, fun z => ?_, fun z => ?_, fun z => ?_, fun z => ?_, fun z => ?_, fun z => ?_, fun z => ?_, fun z => ⟨fun y => ?_, fun y => ?_⟩⟩
    · have e : op = 18 := by omega
      have n3 := d3 (by omega)
      have ok1 := A.so (show 1 < as.length by omega)
      have es1 := (c4 e).2.2
      refine r_ix (i := 1) A (by omega) ?_
      rw [xqi_i]
      refine r_wd (i := 1) A (by omega) ?_
      rw [xqi_i]
      refine r_szs ok1 ?_
      rw [xqi_i, show (nI 4 : Int32) * nI (szs (bso B (as.getD 1 0))) = nI (4 * szs (bso B (as.getD 1 0))) from nI_mul _ _]
      exact W _ (by rw [e, es1]; rfl)
    · exact W _ (by rw [show op = 19 by omega]; rfl)
    · exact W _ (by rw [show op = 20 by omega]; rfl)
    · have e := vw (by omega) (by omega)
      rw [← e]
      rcases z with z | z
      · exact W _ (by rw [show op = 22 by omega]; rfl)
      · exact W _ (by rw [show op = 28 by omega]; rfl)
    · rw [← vw (by omega) (by omega)]
      exact W _ (by rw [show op = 26 by omega]; rfl)
    · rw [← vw (by omega) (by omega)]
      exact W _ (by rw [show op = 27 by omega]; rfl)
    · rw [← vw (by omega) (by omega)]
      rcases z with z | z
      · exact W _ (by rw [show op = 29 by omega]; rfl)
      · exact W _ (by rw [show op = 30 by omega]; rfl)
    · rw [← vw (by omega) (by omega)]
      rcases z with z | z
      · exact W _ (by rw [show op = 31 by omega]; rfl)
      · exact W _ (by rw [show op = 32 by omega]; rfl)
    · rw [← vw (by omega) (by omega)]
      rcases z with z | z | z
      · exact W _ (by rw [show op = 33 by omega]; rfl)
      · exact W _ (by rw [show op = 34 by omega]; rfl)
      · exact W _ (by rw [show op = 35 by omega]; rfl)
    · rcases z with z | z
      · exact W _ (by rw [show op = 45 by omega]; rfl)
      · exact W _ (by rw [show op = 46 by omega]; rfl)
    · rw [h57]
      refine W _ ?_
      rw [← own (by omega)]
      unfold wgh
      rw [if_pos (by omega)]
    · rw [← vw (by omega) (by omega)]
      refine W _ ?_
      unfold wgh
      rw [if_neg (by omega), if_neg (by omega), if_neg (by omega), if_neg (by omega), if_neg (by omega), if_neg (by omega), if_neg (by omega), if_neg (by omega), if_neg (by omega), if_neg (by omega), if_neg (by omega), if_neg (by omega)]
  have w49 : (3 ≤ o ∧ o < 7) ∨ (12 ≤ o ∧ o < 15) → w_VectorSolverModel_heavy_49 Q (nI as.length) (nI (szs (bso B (as.getD 0 0)))) σ := fun q => by
    unfold w_VectorSolverModel_heavy_49
    simp (disch := omega) only [i32_lit, l64_lit, lc_eq, lc_ge, lc_le, lc_gt, lc_lt, jL_inj, jL_add, jL_sub, jL_mul, jL_neg, jL_and, jL_or, jL_xor, jL_mone, BitVec.xor_allOnes, nI_clamp, nI_ltI, nI_leI, nI_eq, nI_1, nI_add, nI_sub, nI_addm, nI_mul, vp_in_n, xi_pi, xi_pl, xl_pi, xl_pl, xb_pi, xb_pl, xqi_i, xql_l, xqv_v, xqi_e, xql_e, xqv_e, forall_eq, true_and, and_true]
    refine W _ ?_
    unfold wgh
    rw [if_neg (by omega), if_neg (by omega), if_pos (by omega)]
  unfold wp_VectorSolverModel_heavy
  refine r_wd (i := 0) A (by omega) ?_
  rw [xqi_i]
  refine r_ix (i := 0) A (by omega) ?_
  rw [xqi_i]
  refine r_szs ok0 ?_
  rw [xqi_i]
  simp (disch := omega) only [i32_lit, l64_lit, lc_eq, lc_ge, lc_le, lc_gt, lc_lt, jL_inj, jL_add, jL_sub, jL_mul, jL_neg, jL_and, jL_or, jL_xor, jL_mone, BitVec.xor_allOnes, nI_clamp, nI_ltI, nI_leI, nI_eq, nI_1, nI_add, nI_sub, nI_addm, nI_mul, vp_in_n, xi_pi, xi_pl, xl_pi, xl_pl, xb_pi, xb_pl, xqi_i, xql_l, xqv_v, xqi_e, xql_e, xqv_e, forall_eq, true_and, and_true]
  refine ⟨fun z => ?_, fun z => ⟨fun y => ⟨fun x => ?_, fun x => ⟨fun w => ?_, fun w => ⟨fun v => ?_, fun v => ?_⟩⟩⟩, fun y => ?_⟩⟩
  · exact W _ (by rw [show op = 13 by omega]; rfl)
  · exact w49 (by omega)
  · rcases w58 with q | q
    · exact q
    · omega
  · rcases w58 with q | q
    · exact q
    · omega
  · exact w49 (by omega)
  · exact W _ (by rw [show op = 21 by omega]; rfl)
/-- what an application leaves alone -/
def oT (σ σ' : xS) : Prop := (∀ a b, ¬ (a = 50 ∧ (b = 11 ∨ b = 21 ∨ b = 44 ∨ b = 36 ∨ b = 56 ∨ b = 57)) → ¬ (56 ≤ a ∧ a ≤ 65) → xi σ' a b = xi σ a b) ∧ (∀ a b, a ≠ 64 → xl σ' a b = xl σ a b) ∧ xb σ' = xb σ
theorem oT.S (h : oT σ σ') : oS σ σ' := ⟨fun a b q => h.1 a b (fun z => q (by unfold rcl; omega)) (fun z => q (by unfold rcl; omega)), h.2.1, h.2.2⟩
theorem r_apply (H : okN c l N) (S : RS c l N B i σ) (A : AP B p h as op hi lo beg σ) (h1 : 10 ≤ op) (h2 : op ≤ 46) (hlo : lo ≤ hi) (hhi : hi ≤ 2147483647) (kf : ∀ e σ', pAp B beg op hi lo as = .error e → RFl B e σ σ' → Q (.inl (some (.int 0))) σ') (ko : ∀ r σ', pAp B beg op hi lo as = .ok r → RS c l N r.2 i σ' → xi σ' 50 36 = nI h → oT σ σ' → Q (.inl (some (.int (nI r.1)))) σ') : wp_VectorSolverModel_apply Q σ := by
  have n1 := H.1
  obtain ⟨⟨a1, a2⟩, ⟨a3, a4, a4'⟩, a5, a6, a7, a8, a9, a10, R, g, ha⟩ := id A
  have hi' := S.2.2.2.2.2.2.1
  have vp : vp_in (nI p) 64 := vp_in_nI (by omega) (by decide)
  have cp : (nI p).toNatClampNeg = p := nI_clamp (by omega)
  have e109 : ∀ s t, RX s → Q (.inl (some (.int 0))) s → w_VectorSolverModel_apply_109 Q (nI as.length) t s := fun s t hx q => by
    unfold w_VectorSolverModel_apply_109
    exact ⟨fun z => absurd z hx.2.2, fun _ => q⟩
  have e71 : ∀ s, RX s → Q (.inl (some (.int 0))) s → w_VectorSolverModel_apply_71 Q (nI as.length) (nI (opr op)) s := fun s hx q => by
    unfold w_VectorSolverModel_apply_71 w_VectorSolverModel_apply_72
    exact ⟨fun _ => e109 s 0 hx q, fun z => absurd rfl z⟩
  unfold wp_VectorSolverModel_apply
  rw [a1, cp, a5, a6]
  refine ⟨vp, fun x1 e1 => ⟨vp, fun x2 e2 => ?_⟩⟩
  subst e1 e2
  refine r_fitM h1 h2 (by omega) ?_
  rw [xqi_i, a1, cp, a7]
  refine ⟨vp, ?_⟩
  cases fit : fitM op as.length with
  | false =>
    refine r_wantF (B := B) (ek := 8) (ep := beg) R S.2.2.2.1 S.2.2.2.2.2.1 (by omega) rfl rfl rfl (by decide) (fun σ' f => ?_)
    rw [xqi_i]
    refine ⟨fun _ => e71 σ' f.2.2.2.2 (kf _ σ' ?_ f), fun z => absurd rfl z⟩
    unfold pAp
    rw [if_pos fit]
  | true =>
  have u : pAp B beg op hi lo as = match sor op as.length (fun i => bso B (as.getD i 0)) hi lo with
    | none => .error (9, beg)
    | some s => pMk B beg op s (if op = 10 then lo else 0) 0#64 as (wgh op (szs s) (szs (bso B (as.getD 0 0))) as.length) := by
    unfold pAp
    rw [if_neg (by rw [fit]; decide)]
    rfl
  refine r_wantT S.2.2.2.1 (by decide) ?_
  rw [xqi_i]
  refine ⟨fun z => absurd z (by decide), fun _ => ?_⟩
  refine r_fits A fit h1 h2 hlo hhi (fun so s1 es o1 g1 g2 => ?_) (fun es => ?_)
  rotate_left
  · rw [xqi_i, a1, cp, a7]
    rw [es] at u
    refine ⟨vp, r_wantF (B := B) (ek := 9) (ep := beg) R S.2.2.2.1 S.2.2.2.2.2.1 (by omega) rfl rfl rfl (by decide) (fun σ' f => ?_)⟩
    rw [xqi_i]
    exact ⟨fun _ => e71 σ' f.2.2.2.2 (kf _ σ' u f), fun z => absurd rfl z⟩
  rw [es] at u
  dsimp only at u
  have A1 := A.e o1 (by decide)
  have S1 := S.e o1 (by decide)
  obtain ⟨ty1, ty2, ty3⟩ := typ_ap g ha fit es h1 h2 hlo
  rw [xqi_i]
  refine ⟨by rw [A1.1.1]; exact vp, ?_⟩
  refine r_wantT S1.2.2.2.1 (by decide) ?_
  rw [xqi_i]
  refine ⟨fun z => absurd z (by decide), fun _ => ?_⟩
  unfold w_VectorSolverModel_apply_72
  refine ⟨fun z => absurd z (by decide), fun _ => ?_⟩
  refine r_heavy A1 fit h1 h2 es ty2 g2 ?_
  rw [xqi_i, A1.1.1, cp, A1.2.2.2.2.1, g1, g2]
  refine ⟨vp, ?_⟩
  have a0 := ha _ (getD_mem (show 0 < as.length by have := (fitM_cs fit).2.2.2.2; omega))
  have ok0 := wf_so g.1 a0
  have z0 := szs_le ok0
  have z1 := szs_le ty2
  have wl : wgh op (szs so) (szs (bso B (as.getD 0 0))) as.length < 1073741824 := wgh_lt z1.2 z0.2 a4' (fun hq => by
    obtain ⟨-, -, -, -, -, -, -, -, c9⟩ := sor_cs es
    have e := c9 (by omega) (by omega)
    have e1 := e.1
    unfold okS at ok0
    rw [szs_v (by omega) (by omega)]
    omega)
  generalize wgh op (szs so) (szs (bso B (as.getD 0 0))) as.length = wt at wl u ⊢
  refine r_make (B := B) (beg := beg) S1.2.2.1 g S1.2.2.2.1 S1.2.2.2.2.2.1 (by omega) wl (fun e σ' hm f => ?_) (fun s2 m1 m2 M => ?_)
  · rw [xqi_i]
    exact e109 σ' _ f.2.2.2.2 (kf e σ' (u.trans (hm _ _ _ _ _)) (RFl.e o1 (by decide) f))
  rw [xqi_i]
  rw [pMk_ok m1 m2] at u
  have fr := M.2.1
  have b1 : xi s2 50 29 = nI p := (fr 50 29 (by omega) (by omega)).trans A1.1.1
  have b4 : xi s2 50 4 = nI 0 := (fr 50 4 (by omega) (by omega)).trans S1.2.2.2.1
  have ma := g.1.1.1
  have ct : (nI (bma B)).toNatClampNeg = bma B := nI_clamp (by omega)
  have vt : vp_in (nI (bma B)) 2000 := vp_in_nI (by omega) (by decide)
  have fib := g.2.2.2.2.2
  unfold w_VectorSolverModel_apply_109
  rw [b4, b1, cp, ct, fr 73 p (by omega) (by omega), A1.2.2.2.2.2.1]
  refine ⟨fun _ => ⟨vp, vt, fun s7 e7 => ?_⟩, fun z => absurd (by decide) z⟩
  have c7 : ∀ a b, ¬ (a = 61 ∧ b = bma B) → xi s7 a b = xi s2 a b := fun a b q => by rw [e7, xi_pi, if_neg q]
  rw [c7 50 29 (by omega), b1, cp, c7 74 p (by omega), fr 74 p (by omega) (by omega), A1.2.2.2.2.2.2.1]
  refine ⟨vp, vt, fun s8 e8 => ⟨vt, fun s9 e9 => ?_⟩⟩
  have c9 : ∀ a b, ¬ (60 ≤ a ∧ a ≤ 62 ∧ b = bma B) → xi s9 a b = xi s2 a b := fun a b q => by rw [e9, xi_pi, if_neg (by omega), e8, xi_pi, if_neg (by omega), c7 a b (by omega)]
  have c9l : ∀ a b, xl s9 a b = xl s2 a b := fun a b => by rw [e9, xl_pi, e8, xl_pi, e7, xl_pi]
  have x62 : xi s9 62 (bma B) = nI lo := by rw [e9, xi_pi, if_neg (by omega), e8, xi_pi, if_pos ⟨rfl, rfl⟩]
  have x60 : xi s9 60 (bma B) = nI as.length := by rw [e9, xi_pi, if_pos ⟨rfl, rfl⟩]
  have x9b : xb s9 = xb s2 := by rw [e9, e8, e7]; rfl
  have x36 : xi s9 50 36 = nI (h + as.length) := by rw [c9 50 36 (by omega), fr 50 36 (by omega) (by omega)]; exact A1.2.1.1
  have x21 : xi s9 50 21 = nI (bfi B (bma B)) := by rw [c9 50 21 (by omega), fr 50 21 (by omega) (by omega)]; exact S1.2.2.1.1.2.1
  have x76 : ∀ k, k < as.length → xi s9 76 (h + k) = nI (as.getD k 0) := fun k hk => by rw [c9 76 _ (by omega), fr 76 _ (by omega) (by omega)]; exact A1.2.2.2.2.2.2.2.1 k hk
  clear e7 e8 e9 c7
  have lp := loop_i (σ := xS) (fun m q s => w_VectorSolverModel_apply_163 Q m (nI as.length) (nI (bma B)) (nI q) s) (fun q s => xi s 50 21 = nI (bfi B (bma B) + q) ∧ (∀ a b, ¬ (a = 50 ∧ b = 21) → ¬ (a = 65 ∧ bfi B (bma B) ≤ b) → xi s a b = xi s9 a b) ∧ (∀ k, k < q → xi s 65 (bfi B (bma B) + k) = nI (as.getD k 0)) ∧ (∀ a b, xl s a b = xl s9 a b) ∧ xb s = xb s9) as.length (fun m s hI => ?_) (fun m q s hq hI hs => ?_)
  · exact ⟨_, lp (as.length + 1) 0 s9 (by omega) (by omega) ⟨x21, fun _ _ _ _ => rfl, fun k hk => absurd hk (by omega), fun _ _ => rfl, rfl⟩⟩
  · obtain ⟨j1, j2, j3, j4, j5⟩ := hI
    unfold w_VectorSolverModel_apply_163
    refine ⟨fun _ s10 e10 => ?_, fun z => absurd (Int32.le_refl _) z⟩
    rw [j2 50 36 (by omega) (by omega), x36, nI_sub (by omega), Nat.add_sub_cancel] at e10
    have c10 : ∀ a b, ¬ (a = 50 ∧ b = 36) → xi s10 a b = xi s a b := fun a b q => by rw [e10, xi_pi, if_neg q]
    have l10 : ∀ a b, xl s10 a b = xl s9 a b := fun a b => by rw [e10, xl_pi]; exact j4 a b
    have c2 : ∀ a b, ¬ (a = 50 ∧ (b = 36 ∨ b = 21)) → ¬ (a = 65 ∧ bfi B (bma B) ≤ b) → ¬ (60 ≤ a ∧ a ≤ 62 ∧ b = bma B) → xi s10 a b = xi s2 a b := fun a b q1 q2 q3 => by rw [c10 a b (by omega), j2 a b (by omega) q2, c9 a b q3]
    have T : oT σ s10 := by
      refine ⟨fun a b q1 q2 => ?_, fun a b q => ?_, ?_⟩
      · rw [c2 a b (by omega) (by omega) (by omega), fr a b (by omega) (by omega)]
        exact o1.1 a b (fun z => q1 ⟨z.1, by have := z.2; simp only [List.mem_cons, List.not_mem_nil, or_false] at this; omega⟩)
      · rw [l10, c9l, M.2.2.1 a b (by omega), o1.2.1]
      · rw [e10]
        show xb s = _
        rw [j5, x9b, M.2.2.2, o1.2.2]
    have RR1 : RR (addT (wtB B (bwe B + wt)) op so (if op = 10 then lo else 0) 0#64 as) s10 := by
      refine RR_T (σ := s1) S1.2.2.1 g ?_ ?_ ?_ (fun j hj => ?_) ?_ ?_ ?_ ?_ ?_ (fun z => ?_) (fun z => absurd z (by omega)) (fun k t q1 q2 q3 => ?_) (fun t ht => ?_) (fun i hi => ?_) (fun k hk => ?_) (fun k j hk => ?_)
      · rw [c2 50 11 (by omega) (by omega) (by omega)]; exact M.1.1
      · rw [c10 50 21 (by omega)]; exact j1
      · rw [c2 50 44 (by omega) (by omega) (by omega)]; exact M.1.2.1
      · have hj' : j = 23 ∨ j = 27 ∨ j = 42 ∨ j = 45 := by simpa using hj
        rw [c2 50 j (by omega) (by omega) (by omega), fr 50 j (by omega) (by omega)]
      · rw [c2 56 _ (by omega) (by omega) (by omega)]; exact M.1.2.2.1
      · rw [c2 57 _ (by omega) (by omega) (by omega)]; exact M.1.2.2.2.1
      · rw [c2 58 _ (by omega) (by omega) (by omega)]; exact M.1.2.2.2.2.1
      · rw [c2 59 _ (by omega) (by omega) (by omega)]; exact M.1.2.2.2.2.2.1
      · rw [c10 60 _ (by omega), j2 60 _ (by omega) (by omega)]; exact x60
      · rw [c10 62 _ (by omega), j2 62 _ (by omega) (by omega), x62, if_pos z]
      · rw [c2 k t (by omega) (by omega) (by omega), fr k t (by omega) (by omega)]
      · rw [l10, c9l, M.2.2.1 64 t (by omega)]
      · rw [c2 65 i (by omega) (by omega) (by omega), fr 65 i (by omega) (by omega)]
      · rw [c10 65 _ (by omega)]; exact j3 k hk
      · rw [c2 k j (by omega) (by omega) (by omega), fr k j (by omega) (by omega)]
    exact ko _ s10 u (S.k T.S (T.1 50 4 (by omega) (by omega)) (T.1 50 5 (by omega) (by omega)) (T.1 50 10 (by omega) (by omega)) RR1) (by rw [e10, xi_pi, if_pos ⟨rfl, rfl⟩]) T
  · obtain ⟨j1, j2, j3, j4, j5⟩ := hI
    unfold w_VectorSolverModel_apply_163
    rw [j2 50 36 (by omega) (by omega), x36, nI_sub (by omega), Nat.add_sub_cancel, nI_add, nI_clamp (n := h + q) (by omega), j2 76 _ (by omega) (by omega), x76 q hq, j1, nI_clamp (n := bfi B (bma B) + q) (by omega), nI_leI (by omega) (by omega)]
    refine ⟨fun z => absurd z (by omega), fun _ => ⟨vp_in_nI (by omega) (by decide), vp_in_nI (by omega) (by decide), fun s11 e11 s12 e12 x13 e13 => ?_⟩⟩
    have y21 : xi s11 50 21 = nI (bfi B (bma B) + q) := by rw [e11, xi_pi, if_neg (by omega)]; exact j1
    rw [y21, show (1 : Int32) = nI 1 from rfl, nI_add] at e12
    rw [show (1 : Int32) = nI 1 from rfl, nI_add] at e13
    subst e13
    refine hs s12 ⟨by rw [e12, xi_pi, if_pos ⟨rfl, rfl⟩]; rfl, fun a b q1 q2 => ?_, fun k hk => ?_, fun a b => ?_, ?_⟩
    · rw [e12, xi_pi, if_neg q1, e11, xi_pi, if_neg (by omega)]; exact j2 a b q1 q2
    · rw [e12, xi_pi, if_neg (by omega), e11, xi_pi]
      by_cases e : k = q
      · rw [if_pos ⟨rfl, by omega⟩, e]
      · rw [if_neg (by omega)]; exact j3 k (by omega)
    · rw [e12, xl_pi, e11, xl_pi]; exact j4 a b
    · rw [e12, e11]; exact j5
end RAP2
