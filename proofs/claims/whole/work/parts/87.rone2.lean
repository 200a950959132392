section RONE2
variable {B : Bk} {σ σ' : xS} {Q : xO → xS → Prop} {t J : Nat}
theorem ncl_1 {s : Nat} (h : s ≤ 64) : ncl s = 1 := by
  unfold ncl
  rw [show s / 128 = 0 by omega]
theorem cel_full {s : Nat} {v : BitVec 64} (ok : okS s) {c : Nat} (hc : c < ncl s) : cel s (v &&& bm (min 64 (szs s))) c = cel s v c := by
  unfold cel
  by_cases s0 : s = 0
  · have c0 : c = 0 := by have := ncl_1 (s := s) (by omega); omega
    rw [if_pos s0]
    apply BitVec.eq_of_getLsbD_eq
    intro j hj
    simp only [BitVec.getLsbD_and, BitVec.getLsbD_ushiftRight, bm_bit]
    by_cases e : j < 1
    · have e2 : csh s c = 0 := by unfold csh; rw [s0]; simp
      have e3 : szs s = 1 := by unfold szs; rw [if_pos s0]
      rw [e2, e3, show 0 + j = 0 by omega]
      simp
    · rw [decide_eq_false e]; simp
  · rw [if_neg s0]
    have ez : szs s = s % 128 * ncl s := by unfold szs ncl; rw [if_neg s0]
    have cw : csh s c + s % 128 ≤ szs s := by
      unfold csh
      show (ncl s - 1 - c) * (s % 128) + s % 128 ≤ szs s
      have : (ncl s - 1 - c) * (s % 128) + s % 128 = (ncl s - 1 - c + 1) * (s % 128) := by rw [Nat.add_mul, Nat.one_mul]
      rw [this, ez, Nat.mul_comm (s % 128)]
      exact Nat.mul_le_mul_right _ (by omega)
    apply BitVec.eq_of_getLsbD_eq
    intro j hj
    simp only [BitVec.getLsbD_and, BitVec.getLsbD_ushiftRight, bm_bit]
    by_cases e : j < s % 128
    · by_cases e2 : csh s c + j < 64
      · rw [decide_eq_true (show csh s c + j < min 64 (szs s) by omega), decide_eq_true e2]; simp
      · rw [BitVec.getLsbD_of_ge v _ (by omega)]; simp
    · rw [decide_eq_false e]; simp
theorem cel_sto {s i c : Nat} {v x : BitVec 64} (ok : okS s) (hs : 128 ≤ s) (hz : szs s ≤ 64) (hi : i < ncl s) (hc : c < ncl s) (hx : x &&& bm (s % 128) = x) : cel s ((v &&& ~~~ (bm (s % 128) <<< csh s i)) ||| (x <<< csh s i)) c = if c = i then x else cel s v c := by
  have w1 : 1 ≤ s % 128 := by unfold okS at ok; omega
  have ei : csh s i = (ncl s - 1 - i) * (s % 128) := rfl
  have ec : csh s c = (ncl s - 1 - c) * (s % 128) := rfl
  have cw := csh_w (c := c) hs ok
  unfold cel
  rw [if_neg (by omega)]
  apply BitVec.eq_of_getLsbD_eq
  intro j hj
  by_cases e : j < s % 128
  · by_cases ci : c = i
    · rw [if_pos ci, ci]
      rw [ci] at cw
      simp only [BitVec.getLsbD_and, BitVec.getLsbD_or, BitVec.getLsbD_not, BitVec.getLsbD_ushiftRight, BitVec.getLsbD_shiftLeft, bm_bit]
      rw [show csh s i + j - csh s i = j by omega, decide_eq_true e, decide_eq_true hj, decide_eq_true (show csh s i + j < 64 by omega), decide_eq_false (show ¬ csh s i + j < csh s i by omega)]
      simp
    · rw [if_neg ci]
      simp only [BitVec.getLsbD_and, BitVec.getLsbD_or, BitVec.getLsbD_not, BitVec.getLsbD_ushiftRight, BitVec.getLsbD_shiftLeft, bm_bit]
      have out : csh s c + j < csh s i ∨ csh s i + s % 128 ≤ csh s c + j := by
        rw [ei, ec]
        rcases Nat.lt_trichotomy (ncl s - 1 - c) (ncl s - 1 - i) with q | q | q
        · left
          have := Nat.mul_le_mul_right (s % 128) (show ncl s - 1 - c + 1 ≤ ncl s - 1 - i by omega)
          rw [Nat.add_mul, Nat.one_mul] at this
          omega
        · omega
        · right
          have := Nat.mul_le_mul_right (s % 128) (show ncl s - 1 - i + 1 ≤ ncl s - 1 - c by omega)
          rw [Nat.add_mul, Nat.one_mul] at this
          omega
      have p64 : csh s c + j < 64 := by omega
      rw [decide_eq_true p64]
      rcases out with q | q
      · rw [decide_eq_true q]; simp
      · rw [decide_eq_false (show ¬ csh s c + j < csh s i by omega), decide_eq_false (show ¬ csh s c + j - csh s i < s % 128 by omega), sub_hi hx (show s % 128 ≤ csh s c + j - csh s i by omega)]
        simp
  · have xj : x.getLsbD j = false := sub_hi hx (by omega)
    simp only [BitVec.getLsbD_and, bm_bit, decide_eq_false e, Bool.false_and, Bool.and_false]
    by_cases ci : c = i
    · rw [if_pos ci, xj]
    · rw [if_neg ci, BitVec.getLsbD_and, bm_bit, decide_eq_false e]; simp
/-- one term is worked out -/
theorem r_one (h : RR B σ) (w : wfB B) (hS : bsz B ≤ 16) (ht : t < bma B) (hn : nowA B J σ t) (h7 : bop B t = 47 → now B J σ t)
    (k : ∀ σ', oN [] [81] σ σ' → now B J σ' t → (∀ j, (j < 64 * t ∨ 64 * t + 64 ≤ j) → xl σ' 81 j = xl σ 81 j) → Q (.inl none) σ') : wp_VectorSolverModel_one Q σ (nI t) := by
  have hm := wf_ma w
  obtain ⟨f1, f2, f3⟩ := wf_fi w ht
  have ty := wf_ty w ht
  have hop := typ_op ty
  have ok := wf_so w ht
  have ol : opr (bop B t) < 64 := by unfold opr; split <;> (try split) <;> (try split) <;> omega
  have o7 : opr (bop B t) = 0 → bop B t = 47 := fun e => by unfold opr at e; split at e <;> (try split at e) <;> (try split at e) <;> omega
  have o8 : opr (bop B t) = 1 → bop B t = 48 := fun e => by unfold opr at e; split at e <;> (try split at e) <;> (try split at e) <;> omega
  have o18 : opr (bop B t) = 7 → bop B t = 18 := fun e => by unfold opr at e; split at e <;> (try split at e) <;> (try split at e) <;> omega
  have o46 : opr (bop B t) = 35 → bop B t = 46 := fun e => by unfold opr at e; split at e <;> (try split at e) <;> (try split at e) <;> omega
  have b7 : bop B t = 47 → opr (bop B t) = 0 := fun e => by rw [e]; rfl
  have b8 : bop B t = 48 → opr (bop B t) = 1 := fun e => by rw [e]; rfl
  have b18 : bop B t = 18 → opr (bop B t) = 7 := fun e => by rw [e]; rfl
  have b46 : bop B t = 46 → opr (bop B t) = 35 := fun e => by rw [e]; rfl
  have plain : ∀ (v : BitVec 64), bso B t ≤ 64 → v = ev B J t → Q (.inl none) (xpl σ 81 (64 * t) (jL v)) := fun v hs hv => by
    refine k _ (oN.pl σ 81 _ _) (fun c hc => ?_) (fun j hj => by rw [xl_pl, if_neg (by omega)])
    rw [ncl_1 hs] at hc
    rw [show c = 0 by omega, Nat.add_zero, xl_pl, if_pos ⟨rfl, rfl⟩, hv, cel_0 hs (ev_sub w ht)]
  unfold wp_VectorSolverModel_one
  simp (disch := omega) only [i32_lit, l64_lit, lc_eq, lc_ge, lc_le, lc_gt, lc_lt, jL_inj, jL_add, jL_sub, jL_mul, jL_neg, jL_and, jL_or, jL_xor, jL_mone, BitVec.xor_allOnes, nI_clamp, nI_ltI, nI_leI, nI_eq, nI_1, nI_add, nI_sub, nI_addm, nI_mul, vp_in_n, xi_pi, xi_pl, xl_pi, xl_pl, xb_pi, xb_pl, xqi_i, xql_l, xqv_v, xqi_e, xql_e, xqv_e, forall_eq, true_and, and_true, rr_wh h]
  refine ⟨fun z0 => ⟨fun z1 => ⟨fun z7 => ⟨fun z35 => ?_, fun z35 => ?_⟩, fun z7 => ?_⟩, fun z1 => ?_⟩, fun z0 => k σ (oN.refl _ _ _) (h7 (o7 z0)) (fun _ _ => rfl)⟩
  · have so : bso B t ≤ 64 := by
      have hz : bop B t = 10 ∨ bop B t = 11 ∨ bop B t = 12 ∨ bop B t = 13 ∨ bop B t = 14 ∨ bop B t = 15 ∨ bop B t = 16 ∨ bop B t = 17 ∨ bop B t = 19 ∨ bop B t = 20 ∨ bop B t = 21 ∨ bop B t = 22 ∨ bop B t = 23 ∨ bop B t = 24 ∨ bop B t = 25 ∨ bop B t = 26 ∨ bop B t = 27 ∨ bop B t = 44 ∨ bop B t = 45 ∨ (28 ≤ bop B t ∧ bop B t ≤ 43) := by
        have : bop B t ≠ 47 := fun e => z0 (b7 e)
        have : bop B t ≠ 48 := fun e => z1 (b8 e)
        have : bop B t ≠ 18 := fun e => z7 (b18 e)
        have : bop B t ≠ 46 := fun e => z35 (b46 e)
        omega
      rcases hz with z | z | z | z | z | z | z | z | z | z | z | z | z | z | z | z | z | z | z | z
      · have := ty_10 ty z; omega
      · have := ty_11 ty z; omega
      · have := ty_12 ty z; omega
      · have := ty_13 ty z; omega
      · have := (ty_14 ty z).2.2; omega
      · have := (ty_15 ty z).2.2; omega
      · have := (ty_16 ty z).2.2; omega
      · have := (ty_17 ty z).2.2; omega
      · have := (ty_19 ty z).2.2; omega
      · have := (ty_20 ty z).2.2; omega
      · have := ty_21 ty z; omega
      · have := ty_22 ty z; omega
      · have := (ty_23 ty z).2.2; omega
      · have := (ty_24 ty z).2.2; omega
      · have := (ty_25 ty z).2.2; omega
      · have := (ty_26 ty z).2.2; omega
      · have := (ty_27 ty z).2.2; omega
      · have := (ty_44 ty z).2.2.2; omega
      · have y := ty_45 ty z
        have l0 := wf_ar w ht (Nat.le_refl _) (show bfi B t < bfi B (t + 1) by omega)
        have ok0 := wf_so w (show bar B (bfi B t) < bma B by omega)
        unfold okS at ok0
        omega
      · have := typ_two ty z; omega
    refine r_result h w hS ht hn (fun e => z0 (b7 e)) (fun e => z1 (b8 e)) (fun e => z7 (b18 e)) (fun e => z35 (b46 e)) (fun r hr => ?_)
    rw [xql_l]
    simp (disch := omega) only [i32_lit, l64_lit, lc_eq, lc_ge, lc_le, lc_gt, lc_lt, jL_inj, jL_add, jL_sub, jL_mul, jL_neg, jL_and, jL_or, jL_xor, jL_mone, BitVec.xor_allOnes, nI_clamp, nI_ltI, nI_leI, nI_eq, nI_1, nI_add, nI_sub, nI_addm, nI_mul, vp_in_n, xi_pi, xi_pl, xl_pi, xl_pl, xb_pi, xb_pl, xqi_i, xql_l, xqv_v, xqi_e, xql_e, xqv_e, forall_eq, true_and, and_true, rr_wi h]
    refine r_mask (by omega) ?_
    rw [xql_l]
    simp (disch := omega) only [i32_lit, l64_lit, lc_eq, lc_ge, lc_le, lc_gt, lc_lt, jL_inj, jL_add, jL_sub, jL_mul, jL_neg, jL_and, jL_or, jL_xor, jL_mone, BitVec.xor_allOnes, nI_clamp, nI_ltI, nI_leI, nI_eq, nI_1, nI_add, nI_sub, nI_addm, nI_mul, vp_in_n, xi_pi, xi_pl, xl_pi, xl_pl, xb_pi, xb_pl, xqi_i, xql_l, xqv_v, xqi_e, xql_e, xqv_e, forall_eq, true_and, and_true]
    refine plain _ so ?_
    rw [← bul so]
    exact hr
  · have z' := o46 z35
    have y := ty_46 ty z'
    have l0 := wf_ar w ht (Nat.le_refl _) (show bfi B t < bfi B (t + 1) by omega)
    have l1 := wf_ar w ht (show bfi B t ≤ bfi B t + 1 by omega) (by omega)
    have l2 := wf_ar w ht (show bfi B t ≤ bfi B t + 2 by omega) (by omega)
    have ok0 := wf_so w (show bar B (bfi B t) < bma B by omega)
    have os2 : bso B (bar B (bfi B t)) / 128 ≤ 6 ∧ 1 ≤ bso B (bar B (bfi B t)) % 128 ∧ bso B (bar B (bfi B t)) % 128 ≤ 64 := by unfold okS at ok0; omega
    have st := y.2.2.2.2
    have ez := ev_szs (J := J) w hS ht
    have iv : (ev B J (bar B (bfi B t + 1))).toNat < ncl (bso B t) := by
      have := ev_lt (J := J) w (show bar B (bfi B t + 1) < bma B by omega)
      rw [vec_sz (s := bso B (bar B (bfi B t + 1))) (by omega) (by omega), y.2.2.1] at this
      unfold ncl
      rw [st]
      exact this
    have nc := ncl_le ok
    have n0 : now B J σ (bar B (bfi B t)) := hn 0 (by omega)
    refine r_of h w ht (show 0 < _ by omega) ?_
    rw [xqi_i, Nat.add_zero]
    refine r_copy (v := ev B J (bar B (bfi B t))) h w ht (show bar B (bfi B t) < bma B by omega) (by omega) (fun c hc => by rw [st]; exact n0 c (by rw [← st]; exact hc)) (fun σ1 o1 c1 k1 => ?_)
    rw [xqv_v]
    have h1 := h.keep o1 (by decide) (by decide)
    have keep : ∀ a, a < t → bso B a ≤ 64 → now B J σ a → now B J σ1 a := fun a ha hs q c hc => by
      rw [ncl_1 hs] at hc
      rw [k1 _ (by omega)]
      exact q c (by rw [ncl_1 hs]; exact hc)
    refine r_valueOf h1 w ht (show 1 < _ by omega) (by omega) (keep _ l1 (by omega) (hn 1 (by omega))) ?_
    rw [xql_l]
    refine r_valueOf h1 w ht (show 2 < _ by omega) (by omega) (keep _ l2 (by omega) (hn 2 (by omega))) ?_
    rw [xql_l]
    simp (disch := omega) only [i32_lit, l64_lit, lc_eq, lc_ge, lc_le, lc_gt, lc_lt, jL_inj, jL_add, jL_sub, jL_mul, jL_neg, jL_and, jL_or, jL_xor, jL_mone, BitVec.xor_allOnes, nI_clamp, nI_ltI, nI_leI, nI_eq, nI_1, nI_add, nI_sub, nI_addm, nI_mul, vp_in_n, xi_pi, xi_pl, xl_pi, xl_pl, xb_pi, xb_pl, xqi_i, xql_l, xqv_v, xqi_e, xql_e, xqv_e, forall_eq, true_and, and_true, jL_l2i]
    refine k _ (o1.trans (oN.pl σ1 81 _ _)) (fun c hc => ?_) (fun j hj => by rw [xl_pl, if_neg (by omega)]; exact k1 j hj)
    have e0 : evL B J t (bar B (bfi B t)) = ev B J (bar B (bfi B t)) := evL_a0 w ht (by omega)
    have hx : ev B J (bar B (bfi B t + 2)) &&& bm (bso B t % 128) = ev B J (bar B (bfi B t + 2)) := by
      have := ev_sub (J := J) w (show bar B (bfi B t + 2) < bma B by omega)
      unfold bful at this
      rw [vec_sz (by omega) (by omega), y.2.2.2.1, ← st] at this
      exact this
    have vt : cel (bso B t) (ev B J t) c = if c = (ev B J (bar B (bfi B t + 1))).toNat then ev B J (bar B (bfi B t + 2)) else cel (bso B t) (ev B J (bar B (bfi B t))) c := by
      rw [← cel_sto ok (by omega) ez.1 iv hc hx, ev_ap w ht (by omega) (by omega), ap_46 z', e0, evL_ar w ht (show 1 < _ by omega), evL_ar w ht (show 2 < _ by omega), ← st]
      unfold bful
      exact cel_full ok hc
    rw [xl_pl, vt]
    by_cases e : c = (ev B J (bar B (bfi B t + 1))).toNat
    · rw [if_pos ⟨rfl, by omega⟩, if_pos e]
    · rw [if_neg (fun q => e (by omega)), if_neg e]
      exact c1 c hc
  · have z' := o18 z7
    have y := ty_18 ty z'
    have l0 := wf_ar w ht (Nat.le_refl _) (show bfi B t < bfi B (t + 1) by omega)
    have l1 := wf_ar w ht (show bfi B t ≤ bfi B t + 1 by omega) (by omega)
    have l2 := wf_ar w ht (show bfi B t ≤ bfi B t + 2 by omega) (by omega)
    have e0 : evL B J t (bar B (bfi B t)) = ev B J (bar B (bfi B t)) := evL_a0 w ht (by omega)
    have v01 : ev B J (bar B (bfi B t)) = 0#64 ∨ ev B J (bar B (bfi B t)) = 1#64 := by
      have := ev_arg (J := J) w ht (Nat.le_refl _) (show bfi B t < bfi B (t + 1) by omega)
      rw [bful_0 y.2.1] at this
      have l := sub_nat (n := 1) (by decide) this
      have h4 : (ev B J (bar B (bfi B t))).toNat = 0 ∨ (ev B J (bar B (bfi B t))).toNat = 1 := by omega
      exact h4.imp (fun q => BitVec.eq_of_toNat_eq q) (fun q => BitVec.eq_of_toNat_eq q)
    have vt : ev B J t = (if ev B J (bar B (bfi B t)) = 0#64 then ev B J (bar B (bfi B t + 2)) else ev B J (bar B (bfi B t + 1))) &&& bful B t := by
      rw [ev_ap w ht (by omega) (by omega), ap_18 z', e0, evL_ar w ht (show 1 < _ by omega), evL_ar w ht (show 2 < _ by omega)]
    have go : ∀ i, i < 3 → 1 ≤ i → (∀ c, c < ncl (bso B t) → cel (bso B t) (ev B J t) c = cel (bso B t) (ev B J (bar B (bfi B t + i))) c) → w_VectorSolverModel_one_69 Q (nI t) (nI (bar B (bfi B t + i))) σ := by
      intro i i3 i1 hv
      have li := wf_ar w ht (show bfi B t ≤ bfi B t + i by omega) (by omega)
      have si : bso B (bar B (bfi B t + i)) = bso B t := by
        by_cases e : i = 1
        · rw [e]; exact y.2.2.1
        · rw [show i = 2 by omega]; exact y.2.2.2
      unfold w_VectorSolverModel_one_69
      refine r_copy (v := ev B J (bar B (bfi B t + i))) h w ht (show bar B (bfi B t + i) < bma B by omega) (by omega) (fun c hc => by have := hn i (by omega) c (by rw [si]; exact hc); rw [si] at this; exact this) (fun σ1 o1 c1 k1 => ?_)
      rw [xqv_v]
      exact k σ1 o1 (fun c hc => by rw [hv c hc]; exact c1 c hc) k1
    refine r_valueOf h w ht (show 0 < _ by omega) (by rw [Nat.add_zero]; omega) (hn 0 (by omega)) ?_
    rw [xql_l, Nat.add_zero]
    simp (disch := omega) only [i32_lit, l64_lit, lc_eq, lc_ge, lc_le, lc_gt, lc_lt, jL_inj, jL_add, jL_sub, jL_mul, jL_neg, jL_and, jL_or, jL_xor, jL_mone, BitVec.xor_allOnes, nI_clamp, nI_ltI, nI_leI, nI_eq, nI_1, nI_add, nI_sub, nI_addm, nI_mul, vp_in_n, xi_pi, xi_pl, xl_pi, xl_pl, xb_pi, xb_pl, xqi_i, xql_l, xqv_v, xqi_e, xql_e, xqv_e, forall_eq, true_and, and_true]
    refine ⟨fun e => ?_, fun e => ?_⟩
    · refine r_of h w ht (show 2 < _ by omega) ?_
      rw [xqi_i]
      refine go 2 (by decide) (by decide) (fun c hc => ?_)
      rw [vt, if_pos (v01.resolve_right e)]
      exact cel_full ok hc
    · refine r_of h w ht (show 1 < _ by omega) ?_
      rw [xqi_i]
      refine go 1 (by decide) (by decide) (fun c hc => ?_)
      rw [vt, if_neg (by rw [e]; decide)]
      exact cel_full ok hc
  · have z' := o8 z1
    have y := ty_48 ty z'
    simp (disch := omega) only [i32_lit, l64_lit, lc_eq, lc_ge, lc_le, lc_gt, lc_lt, jL_inj, jL_add, jL_sub, jL_mul, jL_neg, jL_and, jL_or, jL_xor, jL_mone, BitVec.xor_allOnes, nI_clamp, nI_ltI, nI_leI, nI_eq, nI_1, nI_add, nI_sub, nI_addm, nI_mul, vp_in_n, xi_pi, xi_pl, xl_pi, xl_pl, xb_pi, xb_pl, xqi_i, xql_l, xqv_v, xqi_e, xql_e, xqv_e, forall_eq, true_and, and_true, (h.2.1 t ht).2.2.2.2.2.2 z']
    refine plain _ y.2.1 ?_
    rw [ev_eq]
    unfold stp
    rw [if_neg (by omega), if_pos z']
end RONE2
