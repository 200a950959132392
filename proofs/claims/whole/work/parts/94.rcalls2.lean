section RCALL2
variable {B : Bk} {σ σ' : xS} {Q : xO → xS → Prop} {t J a eff fs ft : Nat} {f sup : Option Nat}
theorem nm_uq (hn : bna B ≤ 500) {x : Int32} {i j : Nat} (h1 : isNm B x i) (h2 : isNm B x j) : i = j := by
  have := h1.2
  have := h2.2
  exact (nI_eq (by omega) (by omega)).mp (h1.1.symm.trans h2.1)
theorem r_suppose (R : CR B σ eff f fs) (W : WW B eff f fs ft) {x : Int32}
    (k1 : ∀ n, isNm B x n → bso B (B.1 18 n) = 0 → can B eff → ∀ σ' r, rOnly σ σ' → CR B σ' (eff - bma B * 2 ^ bsz B) r (bsz B) → xi σ' 50 1 = nI 0 → leastOK B (some (B.1 18 n)) 0 r → Q (.inl (some (.int (bI r.isSome)))) σ')
    (k2 : ∀ n, isNm B x n → bso B (B.1 18 n) = 0 → ¬ can B eff → ∀ σ' y, rOnly σ σ' → CR B σ' eff f fs → xi σ' 50 1 = nI 2 → Q (.inl (some (.int y))) σ')
    (k3 : (∀ n, isNm B x n → bso B (B.1 18 n) ≠ 0) → ∀ σ' y, rOnly σ σ' → CR B σ' eff f fs → xi σ' 50 1 = nI 1 → Q (.inl (some (.int y))) σ') : wp_VectorSolverModel_suppose Q σ x := by
  have w := W.1
  have hm := wf_ma w
  have hn : bna B ≤ 500 := w.1.2.2.2.2.2.1
  have no : (∀ n, isNm B x n → bso B (B.1 18 n) ≠ 0) → w_VectorSolverModel_suppose_44 Q x σ := by
    intro q
    unfold w_VectorSolverModel_suppose_44 w_VectorSolverModel_suppose_45
    refine ⟨fun n => absurd rfl n, fun _ => ?_⟩
    intro s1 e1
    have x1 : xi s1 50 1 = nI 1 := by rw [e1, xi_pi, if_pos ⟨rfl, rfl⟩]; rfl
    rw [x1]
    exact ⟨fun c => absurd c (by decide), fun _ => k3 q s1 _ (by rw [e1]; exact rOnly.code _ _) (by rw [e1]; exact R.put _) x1⟩
  unfold wp_VectorSolverModel_suppose
  rw [R.1.1.2.2.1]
  refine ⟨fun z => no (fun n ⟨e, l⟩ => ?_), fun z => ⟨fun z2 => no (fun n ⟨e, l⟩ => ?_), fun z2 => ?_⟩⟩
  · rw [e, show (0 : Int32) = nI 0 from rfl, nI_ltI (by omega) (by decide)] at z; omega
  · rw [e, nI_leI (by omega) (by omega)] at z2; omega
  · obtain ⟨n, hn1, e⟩ := nI_of z
    subst e
    have l : n < bna B := by
      rw [nI_leI (by omega) hn1] at z2; omega
    have hx : isNm B (nI n) n := ⟨rfl, l⟩
    have nt := W.2.2.1.1 n l
    have okn := wf_so w nt
    have okl := okn.lt
    have e67 := (R.1.2.2.2.1 n l).2
    simp (disch := omega) only [i32_lit, l64_lit, lc_eq, lc_ge, lc_le, lc_gt, lc_lt, jL_inj, jL_add, jL_sub, jL_mul, jL_neg, jL_and, jL_or, jL_xor, jL_mone, BitVec.xor_allOnes, nI_clamp, nI_ltI, nI_leI, nI_eq, nI_1, nI_add, nI_sub, nI_addm, nI_mul, vp_in_n, xi_pi, xi_pl, xl_pi, xl_pl, xb_pi, xb_pl, xqi_i, xql_l, xqv_v, xqi_e, xql_e, xqv_e, forall_eq, true_and, and_true, e67, rr_ix R.1, rr_wi R.1]
    refine ⟨fun q => no (fun m hm2 => ?_), fun q => ⟨fun q2 => no (fun m hm2 => ?_), fun q2 => ?_⟩⟩
    · rw [nm_uq hn hm2 hx]; intro c; rw [c] at q; exact q rfl
    · rw [nm_uq hn hm2 hx]; intro c; rw [c] at q2; exact q2 rfl
    · have s0 : bso B (B.1 18 n) = 0 := by omega
      unfold w_VectorSolverModel_suppose_45
      refine ⟨fun _ => ?_, fun c => absurd c (by decide)⟩
      intro s1 e1
      have x1 : xi s1 50 1 = nI 0 := by rw [e1, xi_pi, if_pos ⟨rfl, rfl⟩]; rfl
      have R1 : CR B s1 eff f fs := by rw [e1]; exact R.put _
      have o1 : rOnly σ s1 := by rw [e1]; exact rOnly.code _ _
      rw [x1]
      refine ⟨fun _ => ?_, fun c => absurd (Int32.le_refl _) c⟩
      refine r_pay R1 W (fun s2 r o2 y2 n2 => ?_)
      rw [xqi_i]
      cases r with
      | false =>
        obtain ⟨nc, R2⟩ := n2 rfl
        refine ⟨fun _ => ?_, fun c => absurd rfl c⟩
        intro s4 e4
        have x4 : xi s4 50 1 = nI 2 := by rw [e4, xi_pi, if_pos ⟨rfl, rfl⟩]; rfl
        rw [x4]
        exact ⟨fun c => absurd c (by decide), fun _ => k2 n hx s0 nc s4 _ (o1.trans (o2.trans (by rw [e4]; exact rOnly.code _ _))) (by rw [e4]; exact R2.put _) x4⟩
      | true =>
        obtain ⟨c, R2⟩ := y2 rfl
        refine ⟨fun c => absurd c (by decide), fun _ => ?_⟩
        intro s4 e4
        have x4 : xi s4 50 1 = nI 0 := by rw [e4, xi_pi, if_pos ⟨rfl, rfl⟩]; rfl
        have R4 : CR B s4 (eff - bma B * 2 ^ bsz B) f fs := by rw [e4]; exact R2.put _
        rw [x4]
        refine ⟨fun _ => ?_, fun c => absurd (Int32.le_refl _) c⟩
        refine ⟨vp_in_nI (by omega) (by decide), ?_⟩
        rw [nI_clamp (by omega), (R4.1.2.2.2.1 n l).2]
        exact r_find (sup := some (B.1 18 n)) (a := 0) R4 w c.1 (fun t q => by cases q; exact ⟨nt, s0⟩) (Nat.zero_le _) (fun σ' r o R' z l => k1 n hx s0 c σ' r (o1.trans (o2.trans ((by rw [e4]; exact rOnly.code _ _ : rOnly s2 s4).trans o))) R' (z.trans x4) l)
theorem r_missed (R : CR B σ eff f fs) (k : ∀ σ', rOnly σ σ' → CR B σ' eff f fs → Q (.inl (some (.int (nI 0)))) σ') : wp_VectorSolverModel_missed Q σ := fun s1 e => k s1 (by rw [e]; exact rOnly.code _ _) (by rw [e]; exact R.put _)
theorem r_refused (R : CR B σ eff f fs) (k : ∀ σ', rOnly σ σ' → CR B σ' eff f fs → Q (.inl (some (.int (nI 0)))) σ') : wp_VectorSolverModel_refused Q σ := fun s1 e => k s1 (by rw [e]; exact rOnly.code _ _) (by rw [e]; exact R.put _)
theorem r_thing (R : CR B σ eff f fs) (W : WW B eff f fs ft) {x c : Int32}
    (k1 : ∀ i j, isTh B x i → c = nI j → j < 4 → ∀ σ', rOnly σ σ' → CR B σ' eff f fs → xi σ' 50 1 = nI 0 → Q (.inl (some (.int (nI (thA B i j))))) σ')
    (k3 : (∀ i j, isTh B x i → c = nI j → ¬ j < 4) → ∀ σ' y, rOnly σ σ' → CR B σ' eff f fs → xi σ' 50 1 = nI 1 → Q (.inl (some (.int y))) σ') : wp_VectorSolverModel_thing Q σ x c := by
  have w := W.1
  have hm := wf_ma w
  have hn : bth B ≤ 500 := w.1.2.2.2.1
  have no : (∀ i j, isTh B x i → c = nI j → ¬ j < 4) → w_VectorSolverModel_thing_26 Q x c σ := by
    intro q
    unfold w_VectorSolverModel_thing_26
    intro s1 e1
    have x1 : xi s1 50 1 = nI 1 := by rw [e1, xi_pi, if_pos ⟨rfl, rfl⟩]; rfl
    rw [x1]
    exact ⟨fun c => absurd c (by decide), fun _ => k3 q s1 _ (by rw [e1]; exact rOnly.code _ _) (by rw [e1]; exact R.put _) x1⟩
  unfold wp_VectorSolverModel_thing
  rw [R.1.1.2.2.2.2.1]
  refine ⟨fun z => no (fun i j ⟨e, l⟩ _ _ => ?_), fun z => ⟨fun z2 => no (fun i j ⟨e, l⟩ _ _ => ?_), fun z2 => ⟨fun z3 => no (fun i j _ e _ => ?_), fun z3 => ⟨fun z4 => no (fun i j _ e l => ?_), fun z4 => ?_⟩⟩⟩⟩
  · rw [e, show (0 : Int32) = nI 0 from rfl, nI_ltI (by omega) (by decide)] at z; omega
  · rw [e, nI_leI (by omega) (by omega)] at z2; omega
  · rw [e, show (0 : Int32) = nI 0 from rfl, nI_ltI (by omega) (by decide)] at z3; omega
  · rw [e, show (3 : Int32) = nI 3 from rfl, nI_ltI (by decide) (by omega)] at z4; omega
  · obtain ⟨i, hi1, e⟩ := nI_of z
    obtain ⟨j, hj1, ej⟩ := nI_of z3
    have l : i < bth B := by rw [e, nI_leI (by omega) hi1] at z2; omega
    have jl : j < 4 := by rw [ej, show (3 : Int32) = nI 3 from rfl, nI_ltI (by decide) hj1] at z4; omega
    have yt := wf_th w l
    have ok := wf_so w yt.1
    have okl := ok.lt
    intro s1 e1
    have x1 : xi s1 50 1 = nI 0 := by rw [e1, xi_pi, if_pos ⟨rfl, rfl⟩]; rfl
    have R1 : CR B s1 eff f fs := by rw [e1]; exact R.put _
    have o1 : rOnly σ s1 := by rw [e1]; exact rOnly.code _ _
    have K := k1 i j ⟨e, l⟩ ej jl s1 o1 R1 x1
    have e80 := R1.1.2.2.2.2.2.2 i l
    rw [x1]
    refine ⟨fun _ => ?_, fun c => absurd (Int32.le_refl _) c⟩
    rw [e, ej]
    simp (disch := omega) only [i32_lit, l64_lit, lc_eq, lc_ge, lc_le, lc_gt, lc_lt, jL_inj, jL_add, jL_sub, jL_mul, jL_neg, jL_and, jL_or, jL_xor, jL_mone, BitVec.xor_allOnes, nI_clamp, nI_ltI, nI_leI, nI_eq, nI_1, nI_add, nI_sub, nI_addm, nI_mul, vp_in_n, xi_pi, xi_pl, xl_pi, xl_pl, xb_pi, xb_pl, xqi_i, xql_l, xqv_v, xqi_e, xql_e, xqv_e, forall_eq, true_and, and_true, e80.1, e80.2, rr_ix R1.1, rr_wi R1.1]
    unfold thA at K
    refine ⟨fun j0 => ⟨fun j1 => ⟨fun j2 => ?_, fun j2 => ?_⟩, fun j1 => ?_⟩, fun j0 => ⟨fun q => ⟨fun q2 => ?_, fun q2 => ?_⟩, fun q => ?_⟩⟩
    · rw [if_neg j0, if_neg j1, if_neg j2] at K; exact K
    · rw [if_neg j0, if_neg j1, if_pos j2] at K; exact K
    · rw [if_neg j0, if_pos j1] at K; exact K
    · rw [if_pos j0, if_pos (by omega)] at K; exact K
    · rw [if_pos j0, if_neg (by omega), if_neg (by omega)] at K; exact K
    · rw [if_pos j0, if_neg (by omega), if_pos (by omega)] at K; exact K
theorem r_countW {len : Nat} (R : CR B σ eff f fs) (hl : xi σ 50 3 = nI len) {c : Int32}
    (k1 : ∀ j, c = nI j → j < 7 → ∀ σ', rOnly σ σ' → CR B σ' eff f fs → xi σ' 50 1 = nI 0 → Q (.inl (some (.int (nI (cntA B len j))))) σ')
    (k3 : (∀ j, c = nI j → ¬ j < 7) → ∀ σ' y, rOnly σ σ' → CR B σ' eff f fs → xi σ' 50 1 = nI 1 → Q (.inl (some (.int y))) σ') : wp_VectorSolverModel_count Q σ c := by
  have no : (∀ j, c = nI j → ¬ j < 7) → w_VectorSolverModel_count_15 Q c σ := by
    intro q
    unfold w_VectorSolverModel_count_15
    intro s1 e1
    have x1 : xi s1 50 1 = nI 1 := by rw [e1, xi_pi, if_pos ⟨rfl, rfl⟩]; rfl
    rw [x1]
    exact ⟨fun c => absurd c (by decide), fun _ => k3 q s1 _ (by rw [e1]; exact rOnly.code _ _) (by rw [e1]; exact R.put _) x1⟩
  unfold wp_VectorSolverModel_count
  refine ⟨fun z3 => no (fun j e l => ?_), fun z3 => ⟨fun z4 => no (fun j e l => ?_), fun z4 => ?_⟩⟩
  · rw [e, show (0 : Int32) = nI 0 from rfl, nI_ltI (by omega) (by decide)] at z3; omega
  · rw [e, show (6 : Int32) = nI 6 from rfl, nI_ltI (by decide) (by omega)] at z4; omega
  · obtain ⟨j, hj1, ej⟩ := nI_of z3
    have jl : j < 7 := by rw [ej, show (6 : Int32) = nI 6 from rfl, nI_ltI (by decide) hj1] at z4; omega
    intro s1 e1
    have x1 : xi s1 50 1 = nI 0 := by rw [e1, xi_pi, if_pos ⟨rfl, rfl⟩]; rfl
    have R1 : CR B s1 eff f fs := by rw [e1]; exact R.put _
    have o1 : rOnly σ s1 := by rw [e1]; exact rOnly.code _ _
    have K := k1 j ej jl s1 o1 R1 x1
    have hl1 : xi s1 50 3 = nI len := o1.2.2.2.1.1.trans hl
    obtain ⟨a1, a2, a3, a4, a5, a6, a7⟩ := R1.1.1
    rw [x1, ej, a1, a3, a4, hl1, a5, a7, a6]
    refine ⟨fun _ => ?_, fun c => absurd (Int32.le_refl _) c⟩
    simp (disch := omega) only [i32_lit, l64_lit, lc_eq, lc_ge, lc_le, lc_gt, lc_lt, jL_inj, jL_add, jL_sub, jL_mul, jL_neg, jL_and, jL_or, jL_xor, jL_mone, BitVec.xor_allOnes, nI_clamp, nI_ltI, nI_leI, nI_eq, nI_1, nI_add, nI_sub, nI_addm, nI_mul, vp_in_n, xi_pi, xi_pl, xl_pi, xl_pl, xb_pi, xb_pl, xqi_i, xql_l, xqv_v, xqi_e, xql_e, xqv_e, forall_eq, true_and, and_true]
    unfold cntA at K
    refine ⟨fun e => ?_, fun e => ?_, fun e => ?_, fun e => ?_, fun e => ?_, fun e => ?_, fun e => ?_⟩
    · rw [if_pos e] at K; exact K
    · rw [if_neg (by omega), if_pos e] at K; exact K
    · rw [if_neg (by omega), if_neg (by omega), if_pos e] at K; exact K
    · rw [if_neg (by omega), if_neg (by omega), if_neg (by omega), if_pos e] at K; exact K
    · rw [if_neg (by omega), if_neg (by omega), if_neg (by omega), if_neg (by omega), if_pos e] at K; exact K
    · rw [if_neg (by omega), if_neg (by omega), if_neg (by omega), if_neg (by omega), if_neg (by omega), if_pos e] at K; exact K
    · rw [if_neg (by omega), if_neg (by omega), if_neg (by omega), if_neg (by omega), if_neg (by omega), if_neg (by omega)] at K; exact K
theorem r_bits {s : Nat} (ok : okS s) (k : Q (.inl (some (.int (nI (szs s))))) σ) : wp_VectorSolverModel_bitsOf Q σ (nI (s / 128)) (nI (s % 128)) := by
  have o1 : s / 128 ≤ 6 := ok.1
  have o2 : s % 128 ≤ 64 := ok.2.1
  unfold wp_VectorSolverModel_bitsOf
  simp (disch := omega) only [i32_lit, l64_lit, lc_eq, lc_ge, lc_le, lc_gt, lc_lt, jL_inj, jL_add, jL_sub, jL_mul, jL_neg, jL_and, jL_or, jL_xor, jL_mone, BitVec.xor_allOnes, nI_clamp, nI_ltI, nI_leI, nI_eq, nI_1, nI_add, nI_sub, nI_addm, nI_mul, vp_in_n, xi_pi, xi_pl, xl_pi, xl_pl, xb_pi, xb_pl, xqi_i, xql_l, xqv_v, xqi_e, xql_e, xqv_e, forall_eq, true_and, and_true]
  unfold szs at k
  refine ⟨fun z => ⟨fun z2 => ?_, fun z2 => ?_⟩, fun z => ?_⟩
  · rw [if_pos (by omega)] at k; exact k
  · rw [if_neg (by omega), show s / 128 = 0 by omega, Nat.pow_zero, Nat.mul_one] at k; exact k
  · rw [nI_shl _ (by omega)]
    rw [if_neg (by omega)] at k
    exact k
/-- a cell of what was found, as the reference takes it -/
theorem vvl_eq {y i j : Nat} (W : WW B eff f fs ft) (hf : f = some y) (hi : i < bth B) (hj : j < ncl (bso B (btt B i))) : vvl B fs ft y i j = if bbe B i + (if bso B (btt B i) % 128 = 0 then 1 else bso B (btt B i) % 128) * (j + 1) ≤ fs then (BitVec.ofNat 64 y >>> (fs - (bbe B i + (if bso B (btt B i) % 128 = 0 then 1 else bso B (btt B i) % 128) * (j + 1)))) &&& bm (if bso B (btt B i) % 128 = 0 then 1 else bso B (btt B i) % 128) else 0#64 := by
  have w := W.1
  obtain ⟨g1, g2, g3, g4⟩ := W.2.2.2.2 y hf
  have p16 : 2 ^ fs ≤ 65536 := Nat.pow_le_pow_right (n := 2) (by decide) g2
  have yt := wf_th w hi
  have ok := wf_so w yt.1
  have sz := wof_ok ok
  have z0 : bso B (btt B i) = 0 ↔ bso B (btt B i) % 128 = 0 := by unfold okS at ok; omega
  have ew : (if bso B (btt B i) = 0 then 1 else bso B (btt B i) % 128) = (if bso B (btt B i) % 128 = 0 then 1 else bso B (btt B i) % 128) := by
    by_cases e : bso B (btt B i) = 0
    · rw [if_pos e, if_pos (z0.mp e)]
    · rw [if_neg e, if_neg (fun q => e (z0.mpr q))]
  have w1 : 1 ≤ (if bso B (btt B i) % 128 = 0 then 1 else bso B (btt B i) % 128) := by split <;> omega
  have ec : csh (bso B (btt B i)) j = (ncl (bso B (btt B i)) - 1 - j) * (if bso B (btt B i) % 128 = 0 then 1 else bso B (btt B i) % 128) := by
    unfold csh
    show (ncl (bso B (btt B i)) - 1 - j) * (bso B (btt B i) % 128) = _
    by_cases e : bso B (btt B i) % 128 = 0
    · have : ncl (bso B (btt B i)) = 1 := ncl_1 (by have := z0.mpr e; omega)
      rw [if_pos e, this, show 1 - 1 - j = 0 by omega, Nat.zero_mul, Nat.zero_mul]
    · rw [if_neg e]
  unfold vvl
  by_cases c : i < ft
  · have bi := be_le2 w (show i + 1 ≤ ft by omega) g3
    rw [g4, yt.2.2.2, sz] at bi
    rw [if_pos c]
    unfold cel
    rw [ew, ec, yt.2.2.2, sz]
    generalize (if bso B (btt B i) % 128 = 0 then 1 else bso B (btt B i) % 128) = V at *
    generalize ncl (bso B (btt B i)) = N at *
    have e1 : V * N = V * (j + 1) + (N - 1 - j) * V := by
      rw [Nat.mul_comm (N - 1 - j), ← Nat.mul_add, show j + 1 + (N - 1 - j) = N by omega]
    rw [e1] at bi ⊢
    rw [if_pos (by omega), ofNat_shr (by omega), ← BitVec.shiftRight_add]
    congr 2
    omega
  · have bi := be_le2 w (show ft ≤ i by omega) (by omega)
    rw [g4] at bi
    have : 1 * 1 ≤ (if bso B (btt B i) % 128 = 0 then 1 else bso B (btt B i) % 128) * (j + 1) := Nat.mul_le_mul w1 (by omega)
    rw [if_neg c, if_neg (by omega)]
theorem r_value (R : CR B σ eff f fs) (W : WW B eff f fs ft) {x c : Int32}
    (k1 : ∀ i j y, isTh B x i → isCl B i c j → f = some y → ∀ σ', rOnly σ σ' → CR B σ' eff f fs → xi σ' 50 1 = nI 0 → Q (.inl (some (.long (jL (vvl B fs ft y i j))))) σ')
    (k2 : ∀ i j, isTh B x i → isCl B i c j → f = none → ∀ σ' z, rOnly σ σ' → CR B σ' eff f fs → xi σ' 50 1 = nI 2 → Q (.inl (some (.long z))) σ')
    (k3 : (∀ i, isTh B x i → ∀ j, ¬ isCl B i c j) → ∀ σ' z, rOnly σ σ' → CR B σ' eff f fs → xi σ' 50 1 = nI 1 → Q (.inl (some (.long z))) σ') : wp_VectorSolverModel_value Q σ x c := by
  have w := W.1
  have hm := wf_ma w
  have hn : bth B ≤ 500 := w.1.2.2.2.1
  have no : (∀ i, isTh B x i → ∀ j, ¬ isCl B i c j) → w_VectorSolverModel_value_34 Q x c σ := by
    intro q
    unfold w_VectorSolverModel_value_34 w_VectorSolverModel_value_35
    refine ⟨fun n => absurd rfl n, fun _ => ?_⟩
    intro s1 e1
    have x1 : xi s1 50 1 = nI 1 := by rw [e1, xi_pi, if_pos ⟨rfl, rfl⟩]; rfl
    rw [x1]
    exact ⟨fun c => absurd c (by decide), fun _ => k3 q s1 _ (by rw [e1]; exact rOnly.code _ _) (by rw [e1]; exact R.put _) x1⟩
  unfold wp_VectorSolverModel_value
  rw [R.1.1.2.2.2.2.1]
  refine ⟨fun z => no (fun i ⟨e, l⟩ => ?_), fun z => ⟨fun z2 => no (fun i ⟨e, l⟩ => ?_), fun z2 => ⟨fun z3 => no (fun i hi j ⟨e, l⟩ => ?_), fun z3 => ?_⟩⟩⟩
  · rw [e, show (0 : Int32) = nI 0 from rfl, nI_ltI (by omega) (by decide)] at z; omega
  · rw [e, nI_leI (by omega) (by omega)] at z2; omega
  · have := ncl_le (wf_so w (wf_th w hi.2).1)
    rw [e, show (0 : Int32) = nI 0 from rfl, nI_ltI (by omega) (by decide)] at z3; omega
  · obtain ⟨i, hi1, e⟩ := nI_of z
    obtain ⟨j, hj1, ej⟩ := nI_of z3
    subst e
    subst ej
    have l : i < bth B := by rw [nI_leI (by omega) hi1] at z2; omega
    have hi : isTh B (nI i) i := ⟨rfl, l⟩
    have yt := wf_th w l
    have ok := wf_so w yt.1
    have okl := ok.lt
    have nc := ncl_le ok
    simp (disch := omega) only [i32_lit, l64_lit, lc_eq, lc_ge, lc_le, lc_gt, lc_lt, jL_inj, jL_add, jL_sub, jL_mul, jL_neg, jL_and, jL_or, jL_xor, jL_mone, BitVec.xor_allOnes, nI_clamp, nI_ltI, nI_leI, nI_eq, nI_1, nI_add, nI_sub, nI_addm, nI_mul, vp_in_n, xi_pi, xi_pl, xl_pi, xl_pl, xb_pi, xb_pl, xqi_i, xql_l, xqv_v, xqi_e, xql_e, xqv_e, forall_eq, true_and, and_true, (R.1.2.2.2.2.2.2 i l).1]
    refine r_cells R.1 w yt.1 ?_
    rw [xqi_i]
    simp (disch := omega) only [i32_lit, l64_lit, lc_eq, lc_ge, lc_le, lc_gt, lc_lt, jL_inj, jL_add, jL_sub, jL_mul, jL_neg, jL_and, jL_or, jL_xor, jL_mone, BitVec.xor_allOnes, nI_clamp, nI_ltI, nI_leI, nI_eq, nI_1, nI_add, nI_sub, nI_addm, nI_mul, vp_in_n, xi_pi, xi_pl, xl_pi, xl_pl, xb_pi, xb_pl, xqi_i, xql_l, xqv_v, xqi_e, xql_e, xqv_e, forall_eq, true_and, and_true]
    refine ⟨fun q => no (fun i' hi' j' ⟨e, l'⟩ => ?_), fun q => ?_⟩
    · rw [th_uq hn hi' hi] at l'
      have := (nI_eq hj1 (by omega)).mp e
      omega
    · have hc : isCl B i (nI j) j := ⟨rfl, by omega⟩
      unfold w_VectorSolverModel_value_35
      refine ⟨fun _ => ?_, fun n => absurd n (by decide)⟩
      rw [R.2.2.1]
      cases hf : f with
      | none =>
        refine ⟨fun n => absurd rfl n, fun _ => ?_⟩
        intro s1 e1
        have x1 : xi s1 50 1 = nI 2 := by rw [e1, xi_pi, if_pos ⟨rfl, rfl⟩]; rfl
        rw [x1]
        exact ⟨fun c => absurd c (by decide), fun _ => k2 i j hi hc hf s1 _ (by rw [e1]; exact rOnly.code _ _) (by rw [e1]; exact R.put _) x1⟩
      | some y =>
        refine ⟨fun _ => ?_, fun n => absurd n (show ¬ bI true = 0 by decide)⟩
        intro s1 e1
        have x1 : xi s1 50 1 = nI 0 := by rw [e1, xi_pi, if_pos ⟨rfl, rfl⟩]; rfl
        have R1 : CR B s1 eff f fs := by rw [e1]; exact R.put _
        have o1 : rOnly σ s1 := by rw [e1]; exact rOnly.code _ _
        have K := k1 i j y hi hc hf s1 o1 R1 x1
        rw [vvl_eq W hf l hc.2] at K
        obtain ⟨d1, d2⟩ := R1.2.2.2 y hf
        obtain ⟨g1, g2, g3, g4⟩ := W.2.2.2.2 y hf
        have p16 : 2 ^ fs ≤ 65536 := Nat.pow_le_pow_right (n := 2) (by decide) g2
        have bb := be_bound w i (by omega)
        have e80 := (R1.1.2.2.2.2.2.2 i l).1
        have o64 : bso B (btt B i) % 128 ≤ 64 := ok.2.1
        rw [x1]
        refine ⟨fun _ => ?_, fun n => absurd (Int32.le_refl _) n⟩
        have fin : ∀ V, V = (if bso B (btt B i) % 128 = 0 then 1 else bso B (btt B i) % 128) → w_VectorSolverModel_value_148 Q (nI i) (nI j) (nI (bbe B i)) (nI V) s1 := by
          intro V hV
          have vl : V ≤ 64 := by rw [hV]; split <;> omega
          rw [← hV] at K
          have vj : V * (j + 1) ≤ 64 * 64 := Nat.mul_le_mul vl (by have := hc.2; omega)
          unfold w_VectorSolverModel_value_148
          rw [d2, d1]
          simp (disch := omega) only [i32_lit, l64_lit, lc_eq, lc_ge, lc_le, lc_gt, lc_lt, jL_inj, jL_add, jL_sub, jL_mul, jL_neg, jL_and, jL_or, jL_xor, jL_mone, BitVec.xor_allOnes, nI_clamp, nI_ltI, nI_leI, nI_eq, nI_1, nI_add, nI_sub, nI_addm, nI_mul, vp_in_n, xi_pi, xi_pl, xl_pi, xl_pl, xb_pi, xb_pl, xqi_i, xql_l, xqv_v, xqi_e, xql_e, xqv_e, forall_eq, true_and, and_true, e80, rr_wi R1.1]
          refine ⟨fun q2 => ?_, fun q2 => ?_⟩
          · rw [if_pos q2] at K
            refine r_mask o64 ?_
            rw [xql_l, nI_sub q2, jL_sshr _ (by omega), sshr_pos (by rw [BitVec.toNat_ofNat]; omega), jL_and, ← hV]
            exact K
          · rw [if_neg q2] at K
            exact K
        have key := loop_i (σ := Unit) (fun n b _ => w_VectorSolverModel_value_75 Q n (nI i) (nI j) (nI (bbe B b)) (nI b) s1) (fun _ _ => True) i (fun n _ _ => ?_) (fun n b _ hb _ hs => ?_)
        · have := key (i + 1) 0 () (by omega) (by omega) trivial
          have b0 : bbe B 0 = 0 := w.2.2.2.2.2.1
          rw [b0] at this
          exact ⟨_, this⟩
        · unfold w_VectorSolverModel_value_75
          simp (disch := omega) only [i32_lit, l64_lit, lc_eq, lc_ge, lc_le, lc_gt, lc_lt, jL_inj, jL_add, jL_sub, jL_mul, jL_neg, jL_and, jL_or, jL_xor, jL_mone, BitVec.xor_allOnes, nI_clamp, nI_ltI, nI_leI, nI_eq, nI_1, nI_add, nI_sub, nI_addm, nI_mul, vp_in_n, xi_pi, xi_pl, xl_pi, xl_pl, xb_pi, xb_pl, xqi_i, xql_l, xqv_v, xqi_e, xql_e, xqv_e, forall_eq, true_and, and_true, e80, rr_wi R1.1]
          refine ⟨fun _ => ⟨fun q2 => fin _ (by rw [if_neg q2]), fun q2 => fin 1 (by rw [if_pos q2])⟩, fun n => absurd (Nat.le_refl _) n⟩
        · have yb := wf_th w (show b < bth B by omega)
          have e80b := (R1.1.2.2.2.2.2.2 b (by omega)).1
          unfold w_VectorSolverModel_value_75
          simp (disch := omega) only [i32_lit, l64_lit, lc_eq, lc_ge, lc_le, lc_gt, lc_lt, jL_inj, jL_add, jL_sub, jL_mul, jL_neg, jL_and, jL_or, jL_xor, jL_mone, BitVec.xor_allOnes, nI_clamp, nI_ltI, nI_leI, nI_eq, nI_1, nI_add, nI_sub, nI_addm, nI_mul, vp_in_n, xi_pi, xi_pl, xl_pi, xl_pl, xb_pi, xb_pl, xqi_i, xql_l, xqv_v, xqi_e, xql_e, xqv_e, forall_eq, true_and, and_true, e80b, rr_wi R1.1, rr_ix R1.1]
          refine ⟨fun n => absurd n (by omega), fun _ => ?_⟩
          refine r_bits (wf_so w yb.1) ?_
          rw [xqi_i]
          simp (disch := omega) only [i32_lit, l64_lit, lc_eq, lc_ge, lc_le, lc_gt, lc_lt, jL_inj, jL_add, jL_sub, jL_mul, jL_neg, jL_and, jL_or, jL_xor, jL_mone, BitVec.xor_allOnes, nI_clamp, nI_ltI, nI_leI, nI_eq, nI_1, nI_add, nI_sub, nI_addm, nI_mul, vp_in_n, xi_pi, xi_pl, xl_pi, xl_pl, xb_pi, xb_pl, xqi_i, xql_l, xqv_v, xqi_e, xql_e, xqv_e, forall_eq, true_and, and_true]
          rw [← yb.2.2.2]
          exact hs () trivial
theorem r_named (R : CR B σ eff f fs) (W : WW B eff f fs ft) {x : Int32}
    (k1 : ∀ n y, isNm B x n → bso B (B.1 18 n) < 128 → f = some y → bsz B ≤ 16 → ∀ σ', rOnly σ σ' → CR B σ' eff f fs → xi σ' 50 1 = nI 0 → Q (.inl (some (.long (jL (ev B (grw B fs y) (B.1 18 n)))))) σ')
    (k2 : ∀ n, isNm B x n → bso B (B.1 18 n) < 128 → (f = none ∨ ¬ bsz B ≤ 16) → ∀ σ' z, rOnly σ σ' → CR B σ' eff f fs → xi σ' 50 1 = nI 2 → Q (.inl (some (.long z))) σ')
    (k3 : (∀ n, isNm B x n → ¬ bso B (B.1 18 n) < 128) → ∀ σ' z, rOnly σ σ' → CR B σ' eff f fs → xi σ' 50 1 = nI 1 → Q (.inl (some (.long z))) σ') : wp_VectorSolverModel_named Q σ x := by
  have w := W.1
  have hm := wf_ma w
  have hb := bsz_le w
  have hn : bna B ≤ 500 := w.1.2.2.2.2.2.1
  have no : (∀ n, isNm B x n → ¬ bso B (B.1 18 n) < 128) → w_VectorSolverModel_named_30 Q x σ := by
    intro q
    unfold w_VectorSolverModel_named_30 w_VectorSolverModel_named_31
    refine ⟨fun n => absurd rfl n, fun _ => ?_⟩
    intro s1 e1
    have x1 : xi s1 50 1 = nI 1 := by rw [e1, xi_pi, if_pos ⟨rfl, rfl⟩]; rfl
    rw [x1]
    exact ⟨fun c => absurd c (by decide), fun _ => k3 q s1 _ (by rw [e1]; exact rOnly.code _ _) (by rw [e1]; exact R.put _) x1⟩
  unfold wp_VectorSolverModel_named
  rw [R.1.1.2.2.1]
  refine ⟨fun z => no (fun n ⟨e, l⟩ => ?_), fun z => ⟨fun z2 => no (fun n ⟨e, l⟩ => ?_), fun z2 => ?_⟩⟩
  · rw [e, show (0 : Int32) = nI 0 from rfl, nI_ltI (by omega) (by decide)] at z; omega
  · rw [e, nI_leI (by omega) (by omega)] at z2; omega
  · obtain ⟨n, hn1, e⟩ := nI_of z
    subst e
    have l : n < bna B := by
      rw [nI_leI (by omega) hn1] at z2; omega
    have hx : isNm B (nI n) n := ⟨rfl, l⟩
    have nt := W.2.2.1.1 n l
    have okn := wf_so w nt
    have okl := okn.lt
    have e67 := (R.1.2.2.2.1 n l).2
    simp (disch := omega) only [i32_lit, l64_lit, lc_eq, lc_ge, lc_le, lc_gt, lc_lt, jL_inj, jL_add, jL_sub, jL_mul, jL_neg, jL_and, jL_or, jL_xor, jL_mone, BitVec.xor_allOnes, nI_clamp, nI_ltI, nI_leI, nI_eq, nI_1, nI_add, nI_sub, nI_addm, nI_mul, vp_in_n, xi_pi, xi_pl, xl_pi, xl_pl, xb_pi, xb_pl, xqi_i, xql_l, xqv_v, xqi_e, xql_e, xqv_e, forall_eq, true_and, and_true, e67, rr_ix R.1]
    refine ⟨fun q => no (fun m hm2 => ?_), fun q => ?_⟩
    · rw [nm_uq hn hm2 hx]; omega
    · have s0 : bso B (B.1 18 n) < 128 := by omega
      have bad : (f = none ∨ ¬ bsz B ≤ 16) → w_VectorSolverModel_named_57 Q (nI n) σ := by
        intro hbad
        unfold w_VectorSolverModel_named_57
        intro s1 e1
        have x1 : xi s1 50 1 = nI 2 := by rw [e1, xi_pi, if_pos ⟨rfl, rfl⟩]; rfl
        rw [x1]
        exact ⟨fun c => absurd c (by decide), fun _ => k2 n hx s0 hbad s1 _ (by rw [e1]; exact rOnly.code _ _) (by rw [e1]; exact R.put _) x1⟩
      unfold w_VectorSolverModel_named_31
      refine ⟨fun _ => ?_, fun c => absurd c (by decide)⟩
      rw [R.2.2.1, R.1.1.2.2.2.2.2.2]
      cases hf : f with
      | none => exact ⟨fun _ => bad (Or.inl hf), fun c => absurd rfl c⟩
      | some y =>
        refine ⟨fun c => absurd c (show ¬ bI true = 0 by decide), fun _ => ?_⟩
        simp (disch := omega) only [i32_lit, l64_lit, lc_eq, lc_ge, lc_le, lc_gt, lc_lt, jL_inj, jL_add, jL_sub, jL_mul, jL_neg, jL_and, jL_or, jL_xor, jL_mone, BitVec.xor_allOnes, nI_clamp, nI_ltI, nI_leI, nI_eq, nI_1, nI_add, nI_sub, nI_addm, nI_mul, vp_in_n, xi_pi, xi_pl, xl_pi, xl_pl, xb_pi, xb_pl, xqi_i, xql_l, xqv_v, xqi_e, xql_e, xqv_e, forall_eq, true_and, and_true]
        refine ⟨fun hS => ?_, fun c => bad (Or.inr c)⟩
        have gl := (W.fit hf).2 hS
        have gf := (W.fit hf).1
        have p17 : 2 ^ bsz B ≤ 65536 := Nat.pow_le_pow_right (n := 2) (by decide) hS
        intro s1 e1
        have x1 : xi s1 50 1 = nI 0 := by rw [e1, xi_pi, if_pos ⟨rfl, rfl⟩]
        have R1 : CR B s1 eff f fs := by rw [e1]; exact R.put _
        have o1 : rOnly σ s1 := by rw [e1]; exact rOnly.code _ _
        obtain ⟨d1, d2⟩ := R1.2.2.2 y hf
        rw [x1]
        refine ⟨fun _ => ?_, fun c => absurd (Int32.le_refl _) c⟩
        have key := loop_i (σ := xS) (fun m t s => w_VectorSolverModel_named_76 Q m (nI n) (nI t) s) (fun t s => oN [82, 83] [81] s1 s ∧ mkB s 82 t (fun a => decide (a ≤ B.1 18 n)) ∧ mkB s 83 t (fun _ => false)) (bma B) (fun m s hI => ?_) (fun m t s ht hI hs => ?_)
        · exact ⟨_, key (bma B + 1) 0 s1 (by omega) (by omega) ⟨oN.refl _ _ _, fun a ha => absurd ha (by omega), fun a ha => absurd ha (by omega)⟩⟩
        · obtain ⟨p1, p2, p3⟩ := hI
          have r := R1.1.keep p1 (by decide) (by decide)
          unfold w_VectorSolverModel_named_76
          rw [r.1.1, r.1.2.2.2.2.2.2, (p1.1 50 52 (by decide)).trans d2, (p1.2.1 50 51 (by decide)).trans d1, nI_sub gf, jL_shl _ (by omega)]
          refine ⟨fun _ => ?_, fun c => absurd (Int32.le_refl _) c⟩
          have eg : (BitVec.ofNat 64 y <<< (bsz B - fs)) = BitVec.ofNat 64 (grw B fs y) := by
            apply BitVec.eq_of_toNat_eq
            have g := W.2.2.2.2 y hf
            have p16 : 2 ^ fs ≤ 65536 := Nat.pow_le_pow_right (n := 2) (by decide) g.2.1
            rw [BitVec.toNat_shiftLeft, BitVec.toNat_ofNat, BitVec.toNat_ofNat, Nat.shiftLeft_eq, Nat.mod_eq_of_lt (a := y) (by omega)]
            rfl
          rw [eg]
          refine r_lay r w hS (by omega) (fun s2 o2 t2 => ?_)
          rw [xqv_v]
          have p12 := p1.trans (o2.up (by decide) (by decide))
          have r2 := R1.1.keep p12 (by decide) (by decide)
          have n2 : mkB s2 82 (bma B) (fun a => decide (a ≤ B.1 18 n)) := fun a ha => (o2.1 82 a (by decide)).trans (p2 a ha)
          have w2 : mkB s2 83 (bma B) (fun _ => false) := fun a ha => (o2.1 83 a (by decide)).trans (p3 a ha)
          refine r_workOut (J := grw B fs y) r2 w hS n2 w2 (fun t ht nt i i1 i2 => ?_) (fun t ht q => by cases q) t2 (fun s3 rr o3 r3 w3 => ?_)
          · have := wf_ar w ht i1 i2
            have := of_decide_eq_true nt
            exact decide_eq_true (by omega)
          · rw [xqi_i]
            have p13 := p12.trans (o3.up (by decide) (by decide))
            have R3 := R1.1.keep p13 (by decide) (by decide)
            have rt : rr = true := r3.mpr (fun t _ _ q => by cases q)
            have nw := w3 rt (B.1 18 n) nt (decide_eq_true (Nat.le_refl _))
            have okn64 : bso B (B.1 18 n) ≤ 64 := by unfold okS at okn; omega
            have e67b := (R3.2.2.2.1 n l).2
            simp (disch := omega) only [i32_lit, l64_lit, lc_eq, lc_ge, lc_le, lc_gt, lc_lt, jL_inj, jL_add, jL_sub, jL_mul, jL_neg, jL_and, jL_or, jL_xor, jL_mone, BitVec.xor_allOnes, nI_clamp, nI_ltI, nI_leI, nI_eq, nI_1, nI_add, nI_sub, nI_addm, nI_mul, vp_in_n, xi_pi, xi_pl, xl_pi, xl_pl, xb_pi, xb_pl, xqi_i, xql_l, xqv_v, xqi_e, xql_e, xqv_e, forall_eq, true_and, and_true, e67b, now_0 w nt okn64 nw]
            refine k1 n y hx s0 hf hS s3 (o1.trans p13.toS.toR) ?_ ((p13.1 50 1 (by decide)).trans x1)
            exact ⟨R3, (p13.2.1 50 46 (by decide)).trans R1.2.1, (p13.1 50 50 (by decide)).trans R1.2.2.1, fun z hz => ⟨(p13.2.1 50 51 (by decide)).trans (R1.2.2.2 z hz).1, (p13.1 50 52 (by decide)).trans (R1.2.2.2 z hz).2⟩⟩
        · obtain ⟨p1, p2, p3⟩ := hI
          have r := R1.1.keep p1 (by decide) (by decide)
          have go : ∀ b : Bool, b = decide (t ≤ B.1 18 n) → w_VectorSolverModel_named_104 Q (w_VectorSolverModel_named_76 Q m) (nI n) (nI t) (nI t) (nI (if b then 1 else 0)) s := by
            intro b hb
            unfold w_VectorSolverModel_named_104
            have nb : vp_nar .boolean (nI (if b then 1 else 0)) = nI (if b then 1 else 0) := by
              cases b
              · exact narB_0
              · exact narB_1
            rw [nb]
            simp (disch := omega) only [i32_lit, l64_lit, lc_eq, lc_ge, lc_le, lc_gt, lc_lt, jL_inj, jL_add, jL_sub, jL_mul, jL_neg, jL_and, jL_or, jL_xor, jL_mone, BitVec.xor_allOnes, nI_clamp, nI_ltI, nI_leI, nI_eq, nI_1, nI_add, nI_sub, nI_addm, nI_mul, vp_in_n, xi_pi, xi_pl, xl_pi, xl_pl, xb_pi, xb_pl, xqi_i, xql_l, xqv_v, xqi_e, xql_e, xqv_e, forall_eq, true_and, and_true, narB_0]
            refine hs _ ⟨p1.trans (((oN.pi s 82 _ _).up (by decide) (by decide)).trans ((oN.pi _ 83 _ _).up (by decide) (by decide))), fun a ha => ?_, fun a ha => ?_⟩
            · rw [xi_pi, if_neg (by omega), xi_pi]
              show _ = nI (if decide (a ≤ B.1 18 n) = true then 1 else 0)
              by_cases c : a = t
              · rw [if_pos ⟨rfl, c⟩, c, ← hb]
              · rw [if_neg (fun z => c z.2)]; exact p2 a (by omega)
            · rw [xi_pi]
              by_cases c : a = t
              · rw [if_pos ⟨rfl, c⟩]; rfl
              · rw [if_neg (fun z => c z.2), xi_pi, if_neg (by omega)]; exact p3 a (by omega)
          unfold w_VectorSolverModel_named_76
          rw [r.1.1]
          simp (disch := omega) only [i32_lit, l64_lit, lc_eq, lc_ge, lc_le, lc_gt, lc_lt, jL_inj, jL_add, jL_sub, jL_mul, jL_neg, jL_and, jL_or, jL_xor, jL_mone, BitVec.xor_allOnes, nI_clamp, nI_ltI, nI_leI, nI_eq, nI_1, nI_add, nI_sub, nI_addm, nI_mul, vp_in_n, xi_pi, xi_pl, xl_pi, xl_pl, xb_pi, xb_pl, xqi_i, xql_l, xqv_v, xqi_e, xql_e, xqv_e, forall_eq, true_and, and_true, (r.2.2.2.1 n l).2]
          refine ⟨fun c => absurd c (by omega), fun _ => ⟨fun c => ?_, fun c => ?_⟩⟩
          · exact go false (decide_eq_false (by omega)).symm
          · exact go true (decide_eq_true (by omega)).symm
end RCALL2
