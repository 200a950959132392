def isTh (B : Bk) (x : Int32) (i : Nat) : Prop := x = nI i ∧ i < bth B
/-- a cell of what was found -/
def vvl (B : Bk) (fs ft x i j : Nat) : BitVec 64 := if i < ft then cel (bso B (btt B i)) (BitVec.ofNat 64 (x / 2 ^ (fs - bbe B (i + 1)))) j else 0#64
section CCALL2
variable {B : Bk} {σ σ' : xS} {Q : xO → xS → Prop} {t J a eff fs ft : Nat} {f sup : Option Nat}
theorem th_or (B : Bk) (hn : bth B ≤ 500) (x : Int32) : (∃ n, isTh B x n) ∨ (x < 0 ∨ ¬ x < nI (bth B)) := by
  by_cases h0 : x < 0
  · exact Or.inr (Or.inl h0)
  · obtain ⟨j, hj, e⟩ := nI_of h0
    by_cases c : j < bth B
    · exact Or.inl ⟨j, e, c⟩
    · right; right
      rw [e, nI_ltI hj (by omega)]
      exact c
theorem th_uq (hn : bth B ≤ 500) {x : Int32} {i j : Nat} (h1 : isTh B x i) (h2 : isTh B x j) : i = j := by
  have := h1.2
  have := h2.2
  exact (nI_eq (by omega) (by omega)).mp (h1.1.symm.trans h2.1)
theorem v_sortOf (C : CC B σ eff f fs ft) (W : WW B eff f fs ft) (hx : 1 ≤ xb σ) {x : Int32} (k1 : ∀ i, isTh B x i → Q (.inl (some (.int (nI (bso B (btt B i)))))) σ) (k2 : (∀ i, ¬ isTh B x i) → Q (.inr 1) (xpb σ (xb σ - 1))) : wp_VectorSolver_sortOfThing Q σ x := by
  have hm := wf_ma W.1
  have hn : bth B ≤ 500 := W.1.1.2.2.2.1
  have r := C.1.1
  unfold wp_VectorSolver_sortOfThing
  rw [r.1.2.2.2.1]
  have no : (x < 0 ∨ ¬ x < nI (bth B)) → ∀ n, ¬ isTh B x n := fun q n ⟨e, l⟩ => by
    rcases q with q | q
    · rw [e, show (0 : Int32) = nI 0 from rfl, nI_ltI (by omega) (by decide)] at q; omega
    · rw [e, nI_ltI (by omega) (by omega)] at q; omega
  refine ⟨fun z => ⟨hx, k2 (no (Or.inl z))⟩, fun z => ⟨fun z2 => ?_, fun z2 => ⟨hx, k2 (no (Or.inr z2))⟩⟩⟩
  rcases th_or B hn x with ⟨n, e, l⟩ | q
  · have yt := wf_th W.1 l
    rw [e]
    simp (disch := omega) only [i32_lit, l64_lit, lc_eq, lc_ge, lc_le, lc_gt, lc_lt, jL_inj, jL_add, jL_sub, jL_mul, jL_neg, jL_and, jL_or, jL_xor, jL_mone, BitVec.xor_allOnes, nI_clamp, nI_ltI, nI_leI, nI_eq, nI_1, nI_add, nI_sub, nI_addm, nI_mul, vp_in_n, xi_pi, xi_pl, xl_pi, xl_pl, xb_pi, xb_pl, xqi_i, xql_l, xqv_v, xqi_e, xql_e, xqv_e, forall_eq, true_and, and_true, rc_tt r, rc_so r]
    exact k1 n ⟨e, l⟩
  · exact absurd z2 (q.elim (fun c => absurd c z) id)
theorem be_mono (w : wfB B) : ∀ d i, i + d ≤ bth B → bbe B i ≤ bbe B (i + d)
  | 0, i, _ => Nat.le_refl _
  | d + 1, i, h => by
    have ih := be_mono w d i (by omega)
    have y := (wf_th w (show i + d < bth B by omega)).2.2.2
    rw [show i + (d + 1) = i + d + 1 by omega]
    omega
theorem be_le2 (w : wfB B) {i j : Nat} (h : i ≤ j) (hj : j ≤ bth B) : bbe B i ≤ bbe B j := by
  have := be_mono w (j - i) i (by omega)
  rw [show i + (j - i) = j by omega] at this
  exact this
def isCl (B : Bk) (i : Nat) (c : Int32) (j : Nat) : Prop := c = nI j ∧ j < ncl (bso B (btt B i))
theorem v_value (C : CC B σ eff f fs ft) (W : WW B eff f fs ft) (hx : 1 ≤ xb σ) {x c : Int32}
    (k1 : ∀ i j y, isTh B x i → isCl B i c j → f = some y → Q (.inl (some (.long (jL (vvl B fs ft y i j))))) σ)
    (k2 : ∀ i j, isTh B x i → isCl B i c j → f = none → Q (.inr 0) (xpb σ (xb σ - 1))) (k3 : (∀ i, isTh B x i → ∀ j, ¬ isCl B i c j) → Q (.inr 1) (xpb σ (xb σ - 1))) : wp_VectorSolver_value Q σ x c := by
  have w := W.1
  have hm := wf_ma w
  have hn : bth B ≤ 500 := w.1.2.2.2.1
  have r := C.1.1
  unfold wp_VectorSolver_value
  refine v_sortOf C W hx (fun i hi => ?_) (fun no => ?_)
  · rw [xqi_i]
    have yt := wf_th w hi.2
    have ok := wf_so w yt.1
    have okl := ok.lt
    have nc := ncl_le ok
    have bad3 : (c < 0 ∨ ¬ c < nI (ncl (bso B (btt B i)))) → Q (.inr 1) (xpb σ (xb σ - 1)) := fun q => k3 (fun i' hi' j hj => by
      rw [th_uq hn hi' hi] at hj
      obtain ⟨e, l⟩ := hj
      rcases q with q | q
      · rw [e, show (0 : Int32) = nI 0 from rfl, nI_ltI (by omega) (by decide)] at q; omega
      · rw [e, nI_ltI (by omega) (by omega)] at q; omega)
    refine ⟨fun z => ⟨hx, bad3 (Or.inl z)⟩, fun z => ?_⟩
    refine p_cells ok ?_
    rw [xqi_i]
    show (c < nI (ncl (bso B (btt B i))) → _) ∧ _
    refine ⟨fun z2 => ?_, fun z2 => ⟨hx, bad3 (Or.inr z2)⟩⟩
    obtain ⟨j, hj, ej⟩ := nI_of z
    have jl : j < ncl (bso B (btt B i)) := by rw [ej, nI_ltI hj (by omega)] at z2; exact z2
    have hcl : isCl B i c j := ⟨ej, jl⟩
    rw [C.2.2.2.1]
    cases hf : f with
    | none => exact ⟨fun n => absurd rfl n, fun _ => ⟨hx, k2 i j hi hcl hf⟩⟩
    | some y =>
      obtain ⟨d1, d2, d3⟩ := C.2.2.2.2 y hf
      obtain ⟨g1, g2, g3, g4⟩ := W.2.2.2.2 y hf
      have p16 : 2 ^ fs ≤ 65536 := Nat.pow_le_pow_right (n := 2) (by decide) g2
      have nm : (nI y = -1) = False := nI_ne_m1 (by omega)
      have k1 := k1 i j y hi hcl hf
      unfold vvl at k1
      refine ⟨fun _ => ?_, fun n => ?_⟩
      · have il := hi.2
        rw [d1, d2, hi.1]
        simp (disch := omega) only [i32_lit, l64_lit, lc_eq, lc_ge, lc_le, lc_gt, lc_lt, jL_inj, jL_add, jL_sub, jL_mul, jL_neg, jL_and, jL_or, jL_xor, jL_mone, BitVec.xor_allOnes, nI_clamp, nI_ltI, nI_leI, nI_eq, nI_1, nI_add, nI_sub, nI_addm, nI_mul, vp_in_n, xi_pi, xi_pl, xl_pi, xl_pl, xb_pi, xb_pl, xqi_i, xql_l, xqv_v, xqi_e, xql_e, xqv_e, forall_eq, true_and, and_true]
        refine ⟨fun c2 => ?_, fun c2 => ?_⟩
        · rw [if_pos c2] at k1
          have bi := be_le2 w (show i + 1 ≤ ft by omega) g3
          rw [g4] at bi
          unfold wp_Book_shift
          simp (disch := omega) only [i32_lit, l64_lit, lc_eq, lc_ge, lc_le, lc_gt, lc_lt, jL_inj, jL_add, jL_sub, jL_mul, jL_neg, jL_and, jL_or, jL_xor, jL_mone, BitVec.xor_allOnes, nI_clamp, nI_ltI, nI_leI, nI_eq, nI_1, nI_add, nI_sub, nI_addm, nI_mul, vp_in_n, xi_pi, xi_pl, xl_pi, xl_pl, xb_pi, xb_pl, xqi_i, xql_l, xqv_v, xqi_e, xql_e, xqv_e, forall_eq, true_and, and_true, rc_be r]
          show wp_Sorts_cell _ σ (nI (bso B (btt B i))) ((jiushr (nI y) (nI (fs - bbe B (i + 1)))).toInt64) c.toInt64
          have yl := Nat.div_le_self y (2 ^ (fs - bbe B (i + 1)))
          rw [nI_ushr (by omega) (by omega), jL_i2l (by omega), ej, jL_i2l hj]
          have jn : (BitVec.ofNat 64 j).toNat = j := by rw [BitVec.toNat_ofNat]; omega
          have sz : szs (bso B (btt B i)) ≤ 16 := by have := yt.2.2.2; omega
          have cz : csh (bso B (btt B i)) j < 64 := by
            by_cases q : 128 ≤ bso B (btt B i)
            · have := csh_lt (c := j) ok q; omega
            · unfold csh
              rw [show bso B (btt B i) / 128 = 0 by omega]
              simp
          refine p_cell ok (by rw [jn]; exact jl) (by rw [jn]; exact cz) ?_
          rw [xql_l, jn]
          exact k1
        · rw [if_neg c2] at k1
          exact k1
      · have n : nI y = -1 := n
        rw [nm] at n
        exact n.elim
  · rw [xqi_e]
    exact k3 (fun i hi => absurd hi (no i))
theorem v_named (C : CC B σ eff f fs ft) (W : WW B eff f fs ft) (hx : 1 ≤ xb σ) {x : Int32}
    (k1 : ∀ n y, isNm B x n → bso B (B.1 18 n) < 128 → f = some y → bsz B ≤ 16 → ∀ σ', oN [] [49] σ σ' → Q (.inl (some (.long (jL (ev B (grw B fs y) (B.1 18 n)))))) σ')
    (k2 : ∀ n, isNm B x n → bso B (B.1 18 n) < 128 → (f = none ∨ ¬ bsz B ≤ 16) → Q (.inr 0) (xpb σ (xb σ - 1))) (k3 : (∀ n, isNm B x n → ¬ bso B (B.1 18 n) < 128) → Q (.inr 1) (xpb σ (xb σ - 1))) : wp_VectorSolver_named Q σ x := by
  have w := W.1
  have hm := wf_ma w
  have r := C.1.1
  have hb := bsz_le w
  unfold wp_VectorSolver_named
  refine v_term C W hx (fun n hn => ?_) (fun no => ?_)
  · have nt := W.2.2.1.1 n hn.2
    have uniq : ∀ m, isNm B x m → m = n := fun m hm2 => by
      have e := hm2.1.symm.trans hn.1
      have h5 : bna B ≤ 500 := W.1.1.2.2.2.2.2.1
      have := hn.2
      have := hm2.2
      exact (nI_eq (by omega) (by omega)).mp e
    have okl := (wf_so w nt).lt
    rw [xqi_i]
    simp (disch := omega) only [i32_lit, l64_lit, lc_eq, lc_ge, lc_le, lc_gt, lc_lt, jL_inj, jL_add, jL_sub, jL_mul, jL_neg, jL_and, jL_or, jL_xor, jL_mone, BitVec.xor_allOnes, nI_clamp, nI_ltI, nI_leI, nI_eq, nI_1, nI_add, nI_sub, nI_addm, nI_mul, vp_in_n, xi_pi, xi_pl, xl_pi, xl_pl, xb_pi, xb_pl, xqi_i, xql_l, xqv_v, xqi_e, xql_e, xqv_e, forall_eq, true_and, and_true, rc_so r]
    refine p_isArray (by omega) ?_
    rw [xqi_i]
    by_cases e : bso B (B.1 18 n) ≤ 127
    · rw [if_pos e]
      refine ⟨fun _ => ?_, fun q => absurd rfl q⟩
      rw [C.2.2.2.1]
      cases hf : f with
      | none => exact ⟨fun _ => ⟨hx, k2 n hn (by omega) (Or.inl hf)⟩, fun q => absurd rfl q⟩
      | some y =>
        have g := W.2.2.2.2 y hf
        have p16 : 2 ^ fs ≤ 65536 := Nat.pow_le_pow_right (n := 2) (by decide) g.2.1
        have nm : (nI y = -1) = False := nI_ne_m1 (by omega)
        refine ⟨fun q => ?_, fun _ => ?_⟩
        · have q : nI y = -1 := q
          rw [nm] at q
          exact q.elim
        · refine v_size r w ?_
          rw [xqi_i]
          simp (disch := omega) only [i32_lit, l64_lit, lc_eq, lc_ge, lc_le, lc_gt, lc_lt, jL_inj, jL_add, jL_sub, jL_mul, jL_neg, jL_and, jL_or, jL_xor, jL_mone, BitVec.xor_allOnes, nI_clamp, nI_ltI, nI_leI, nI_eq, nI_1, nI_add, nI_sub, nI_addm, nI_mul, vp_in_n, xi_pi, xi_pl, xl_pi, xl_pl, xb_pi, xb_pl, xqi_i, xql_l, xqv_v, xqi_e, xql_e, xqv_e, forall_eq, true_and, and_true]
          refine ⟨fun c => ?_, fun c => ⟨hx, k2 n hn (by omega) (Or.inr c)⟩⟩
          have gl := (W.fit hf).2 c
          have p17 : 2 ^ bsz B ≤ 65536 := Nat.pow_le_pow_right (n := 2) (by decide) c
          refine v_grown C W c hf ?_
          rw [xqi_i]
          refine v_size r w ?_
          rw [xqi_i]
          refine e_evaluate_48 r w c (by omega) nt (fun σ' o h => ?_)
          rw [xqv_v]
          simp (disch := omega) only [i32_lit, l64_lit, lc_eq, lc_ge, lc_le, lc_gt, lc_lt, jL_inj, jL_add, jL_sub, jL_mul, jL_neg, jL_and, jL_or, jL_xor, jL_mone, BitVec.xor_allOnes, nI_clamp, nI_ltI, nI_leI, nI_eq, nI_1, nI_add, nI_sub, nI_addm, nI_mul, vp_in_n, xi_pi, xi_pl, xl_pi, xl_pl, xb_pi, xb_pl, xqi_i, xql_l, xqv_v, xqi_e, xql_e, xqv_e, forall_eq, true_and, and_true, h _ (Nat.le_refl _)]
          exact k1 n y hn (by omega) hf c σ' o.n
    · rw [if_neg e]
      refine ⟨fun q => absurd q (by decide), fun _ => ⟨hx, k3 (fun m hm2 => by rw [uniq m hm2]; omega)⟩⟩
  · rw [xqi_e]
    exact k3 (fun n hn => absurd hn (no n))
/-- what is asked of a thing -/
def thA (B : Bk) (i j : Nat) : Nat := if j = 0 then (if bso B (btt B i) = 0 then 0 else if 128 ≤ bso B (btt B i) then 2 else 1) else if j = 1 then bso B (btt B i) % 128 else if j = 2 then bso B (btt B i) / 128 else B.1 20 i
theorem v_thing (C : CC B σ eff f fs ft) (W : WW B eff f fs ft) (hx : 1 ≤ xb σ) {x c : Int32}
    (k1 : ∀ i j, isTh B x i → c = nI j → j < 4 → Q (.inl (some (.int (nI (thA B i j))))) σ) (k3 : (∀ i j, isTh B x i → c = nI j → ¬ j < 4) → Q (.inr 1) (xpb σ (xb σ - 1))) : wp_VectorSolver_thing Q σ x c := by
  have w := W.1
  have hm := wf_ma w
  have hn : bth B ≤ 500 := w.1.2.2.2.1
  have r := C.1.1
  unfold wp_VectorSolver_thing
  refine v_sortOf C W hx (fun i hi => ?_) (fun no => ?_)
  · rw [xqi_i]
    have yt := wf_th w hi.2
    have ok := wf_so w yt.1
    have okl := ok.lt
    refine ⟨fun e => ⟨fun q => ?_, fun q => ?_⟩, fun e => ?_, fun e => ?_, fun e => ?_, fun e => ⟨hx, k3 (fun i' j hi' ej hj => ?_)⟩⟩
    · have k := k1 i 0 hi e (by decide)
      have q0 : bso B (btt B i) ≠ 0 := fun n => q (by rw [n]; rfl)
      refine p_isArray (by omega) ?_
      rw [xqi_i]
      have ta : thA B i 0 = if 128 ≤ bso B (btt B i) then 2 else 1 := by unfold thA; rw [if_pos rfl, if_neg q0]
      rw [ta] at k
      by_cases s7 : bso B (btt B i) ≤ 127
      · rw [if_pos s7]
        rw [if_neg (by omega)] at k
        exact ⟨fun _ => k, fun n => absurd rfl n⟩
      · rw [if_neg s7]
        rw [if_pos (by omega)] at k
        exact ⟨fun n => absurd n (by decide), fun _ => k⟩
    · have k := k1 i 0 hi e (by decide)
      have q0 : bso B (btt B i) = 0 := (nI_eq (by omega) (by decide)).mp q
      have ta : thA B i 0 = 0 := by unfold thA; rw [if_pos rfl, if_pos q0]
      rw [ta] at k
      exact k
    · have k := k1 i 1 hi e (by decide)
      refine p_width (by omega) ?_
      rw [xqi_i]
      exact k
    · have k := k1 i 2 hi e (by decide)
      refine p_indexWidth (by omega) ?_
      rw [xqi_i]
      exact k
    · have k := k1 i 3 hi e (by decide)
      have e20 : xi σ 20 i = nI (B.1 20 i) := r.2.1 20 i hi.2
      have il := hi.2
      rw [hi.1]
      simp (disch := omega) only [i32_lit, l64_lit, lc_eq, lc_ge, lc_le, lc_gt, lc_lt, jL_inj, jL_add, jL_sub, jL_mul, jL_neg, jL_and, jL_or, jL_xor, jL_mone, BitVec.xor_allOnes, nI_clamp, nI_ltI, nI_leI, nI_eq, nI_1, nI_add, nI_sub, nI_addm, nI_mul, vp_in_n, xi_pi, xi_pl, xl_pi, xl_pl, xb_pi, xb_pl, xqi_i, xql_l, xqv_v, xqi_e, xql_e, xqv_e, forall_eq, true_and, and_true, e20]
      exact k
    · rw [ej] at e
      have : j = 0 ∨ j = 1 ∨ j = 2 ∨ j = 3 := by omega
      rcases this with z | z | z | z
      · exact e.1 (by rw [z]; rfl)
      · exact e.2.1 (by rw [z]; rfl)
      · exact e.2.2.1 (by rw [z]; rfl)
      · exact e.2.2.2 (by rw [z]; rfl)
  · rw [xqi_e]
    exact k3 (fun i j hi => absurd hi (no i))
/-- what is counted -/
def cntA (B : Bk) (len j : Nat) : Nat := if j = 0 then bma B else if j = 1 then bna B else if j = 2 then bas B else if j = 3 then len else if j = 4 then bth B else if j = 5 then bsz B else bwe B
theorem v_countW {len : Nat} (C : CC B σ eff f fs ft) (W : WW B eff f fs ft) (hl : xi σ 1 1 = nI len) (hx : 1 ≤ xb σ) {c : Int32}
    (k1 : ∀ j, c = nI j → j < 7 → Q (.inl (some (.int (nI (cntA B len j))))) σ) (k3 : (∀ j, c = nI j → ¬ j < 7) → Q (.inr 1) (xpb σ (xb σ - 1))) : wp_VectorSolver_count Q σ c := by
  have r := C.1.1
  unfold wp_VectorSolver_count
  rw [r.1.1, r.1.2.2.1, r.1.2.2.2.2, hl, r.1.2.2.2.1, r.1.2.1]
  refine ⟨fun e => k1 0 e (by decide), fun e => k1 1 e (by decide), fun e => k1 2 e (by decide), fun e => k1 3 e (by decide), fun e => k1 4 e (by decide), fun e => ?_, fun e => k1 6 e (by decide), fun e => ⟨hx, k3 (fun j ej hj => ?_)⟩⟩
  · refine v_size r W.1 ?_
    rw [xqi_i]
    exact k1 5 e (by decide)
  · rw [ej] at e
    have : j = 0 ∨ j = 1 ∨ j = 2 ∨ j = 3 ∨ j = 4 ∨ j = 5 ∨ j = 6 := by omega
    rcases this with z | z | z | z | z | z | z
    · exact e.1 (by rw [z]; rfl)
    · exact e.2.1 (by rw [z]; rfl)
    · exact e.2.2.1 (by rw [z]; rfl)
    · exact e.2.2.2.1 (by rw [z]; rfl)
    · exact e.2.2.2.2.1 (by rw [z]; rfl)
    · exact e.2.2.2.2.2.1 (by rw [z]; rfl)
    · exact e.2.2.2.2.2.2 (by rw [z]; rfl)
end CCALL2
