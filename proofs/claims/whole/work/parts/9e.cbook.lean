/-! THE CLASS'S BOOK GROWS -/
def oB (σ σ' : xS) : Prop := (∀ a b, ¬ (5 ≤ a ∧ a ≤ 22) → xi σ' a b = xi σ a b) ∧ (∀ a b, a ≠ 12 → a ≠ 13 → xl σ' a b = xl σ a b) ∧ xb σ' = xb σ
theorem oB.refl (σ : xS) : oB σ σ := ⟨fun _ _ _ => rfl, fun _ _ _ _ => rfl, rfl⟩
theorem oB.trans {σ σ' σ2 : xS} (h : oB σ σ') (h2 : oB σ' σ2) : oB σ σ2 := ⟨fun a b q => (h2.1 a b q).trans (h.1 a b q), fun a b q q' => (h2.2.1 a b q q').trans (h.2.1 a b q q'), h2.2.2.trans h.2.2⟩
theorem oB.pi (σ : xS) (a b : Nat) (x : Int32) (h : 5 ≤ a ∧ a ≤ 22) : oB σ (xpi σ a b x) := ⟨fun a' b' q => by rw [xi_pi, if_neg (fun z => q (by rw [z.1]; exact h))], fun _ _ _ _ => rfl, rfl⟩
theorem oB.pl (σ : xS) (a b : Nat) (x : Int64) (h : a = 12 ∨ a = 13) : oB σ (xpl σ a b x) := ⟨fun _ _ _ => rfl, fun a' b' q q' => by rw [xl_pl, if_neg (fun z => by omega)], rfl⟩
theorem RC_T {B : Bk} {σ σ' : xS} {op so lo : Nat} {bits : BitVec 64} {as : List Nat} (R : RC B σ)
    (h6 : xi σ' 6 9 = nI (bma B + 1)) (h6' : xi σ' 6 10 = xi σ 6 10) (h5 : ∀ j, xi σ' 5 j = xi σ 5 j)
    (h7 : ∀ j, xi σ' 7 j = if j = bma B then nI op else xi σ 7 j) (h8 : ∀ j, xi σ' 8 j = if j = bma B then nI so else xi σ 8 j)
    (h9 : ∀ j, xi σ' 9 j = if j = bma B + 1 then nI (bfi B (bma B) + as.length) else xi σ 9 j)
    (h10 : ∀ j, xi σ' 10 j = if bfi B (bma B) ≤ j ∧ j < bfi B (bma B) + as.length then nI (as.getD (j - bfi B (bma B)) 0) else xi σ 10 j)
    (h11 : ∀ j, xi σ' 11 j = if j = bma B then nI lo else xi σ 11 j) (h14 : ∀ j, xi σ' 14 j = if j = bma B then nI (lwo B as (bma B)) else xi σ 14 j) (h15 : ∀ j, xi σ' 15 j = if j = bma B then nI (cao B op lo as) else xi σ 15 j)
    (hk : ∀ k j, 16 ≤ k → k ≤ 22 → xi σ' k j = xi σ k j) (h12 : ∀ j, xl σ' 12 j = if j = bma B then jL bits else xl σ 12 j) (h13 : ∀ j, xl σ' 13 j = if j = bma B then jL (bm (min 64 (szs so))) else xl σ 13 j) : RC (addT B op so lo bits as) σ' := by
  obtain ⟨⟨r1, r2, r3, r4, r5⟩, r6, r7⟩ := R
  refine ⟨⟨by rw [h6, aT_m], by rw [h6', aT_w]; exact r2, by rw [h5]; exact r3.trans (congrArg nI (aT_5 4).symm), by rw [h5]; exact r4.trans (congrArg nI (aT_5 8).symm), by rw [h5]; exact r5.trans (congrArg nI (aT_5 10).symm)⟩, fun k j hj => ?_, fun t ht => ?_⟩
  · have en : bna (addT B op so lo bits as) = bna B := aT_5 4
    have eh : bth (addT B op so lo bits as) = bth B := aT_5 8
    have ea : bas (addT B op so lo bits as) = bas B := aT_5 10
    have hj := bk_cs hj
    rw [aT_m, aT_f, en, eh, ea, aT_k (k := 17) (by decide)] at hj
    have ol : ∀ k, k = k → j < bkB B k → xi σ k j = nI (B.1 k j) := fun k _ h => r6 k j h
    rcases hj with ⟨rfl, h⟩ | ⟨rfl, h⟩ | ⟨rfl, h⟩ | ⟨rfl, h⟩ | ⟨rfl, h⟩ | ⟨rfl, h⟩ | ⟨rfl, h⟩ | ⟨rfl, h⟩ | ⟨rfl, h⟩ | ⟨rfl, h⟩ | ⟨rfl, h⟩ | ⟨rfl, h⟩ | ⟨rfl, h⟩ | ⟨rfl, h⟩
    · rw [aT_7, h7]; split
      · rfl
      · exact r6 7 j (show j < bma B by omega)
    · rw [aT_8, h8]; split
      · rfl
      · exact r6 8 j (show j < bma B by omega)
    · rw [aT_9, h9]; split
      · rfl
      · exact r6 9 j (show j < bma B + 1 by omega)
    · rw [aT_10, h10]; split
      · rfl
      · exact r6 10 j (show j < bfi B (bma B) by omega)
    · rw [aT_11, h11]; split
      · rfl
      · exact r6 11 j (show j < bma B by omega)
    · rw [aT_14, h14]; split
      · rfl
      · exact r6 14 j (show j < bma B by omega)
    · rw [aT_15, h15]; split
      · rfl
      · exact r6 15 j (show j < bma B by omega)
    · rw [aT_k (by decide), hk _ _ (by decide) (by decide)]; exact r6 16 j h
    · rw [aT_k (by decide), hk _ _ (by decide) (by decide)]; exact r6 17 j h
    · rw [aT_k (by decide), hk _ _ (by decide) (by decide)]; exact r6 18 j h
    · rw [aT_k (by decide), hk _ _ (by decide) (by decide)]; exact r6 19 j h
    · rw [aT_k (by decide), hk _ _ (by decide) (by decide)]; exact r6 20 j h
    · rw [aT_k (by decide), hk _ _ (by decide) (by decide)]; exact r6 21 j h
    · rw [aT_k (by decide), hk _ _ (by decide) (by decide)]; exact r6 22 j h
  · rw [aT_m] at ht
    rw [aT_2, h12, h13]
    have e8 : bso (addT B op so lo bits as) t = if t = bma B then so else bso B t := aT_8 t
    unfold bful
    rw [e8]
    by_cases q : t = bma B
    · rw [if_pos q, if_pos q, if_pos q, if_pos q]; exact ⟨rfl, rfl⟩
    · rw [if_neg q, if_neg q, if_neg q, if_neg q]; exact r7 t (by omega)
section CBOOK
variable {B : Bk} {σ : xS} {Q : xO → xS → Prop} {op so lo : Nat} {bits : BitVec 64} {as : List Nat} {t w : Nat}
theorem v_add (R : RC B σ) (hm : bma B < 2000) (hs : okS so) (ho : op < 64) (k : ∀ σ', RC (addT B op so 0 bits []) σ' → oB σ σ' → Q (.inl (some (.int (nI (bma B))))) σ') : wp_Terms_add Q σ (nI op) (nI so) (jL bits) := by
  have vi : vp_in (nI (bma B)) 2000 := vp_in_nI hm (by decide)
  have cl : (nI (bma B)).toNatClampNeg = bma B := nI_clamp (by omega)
  have cl1 : (nI (bma B + 1)).toNatClampNeg = bma B + 1 := nI_clamp (by omega)
  have sz : szs so < 2147483648 := by
    unfold szs
    obtain ⟨h1, h2, h3⟩ := hs
    split
    · decide
    · have : 2 ^ (so / 128) ≤ 2 ^ 6 := Nat.pow_le_pow_right (by decide) h1
      have := Nat.mul_le_mul h2 this
      omega
  unfold wp_Terms_add
  intro x1 e1
  rw [R.1.1] at e1
  subst e1
  rw [cl]
  refine ⟨vi, fun s2 e2 => ⟨vi, fun s3 e3 => ⟨vi, fun s4 e4 => ⟨vi, fun s5 e5 => ?_⟩⟩⟩⟩
  refine p_size hs ?_
  rw [xqi_i]
  refine p_maskw sz ?_
  rw [xql_l]
  refine ⟨vi, fun s10 e10 => ⟨vi, fun s11 e11 => ?_⟩⟩
  have e0 : (0 : Int32) = nI 0 := rfl
  have f1 : xi s11 9 (bma B) = nI (bfi B (bma B)) := by
    rw [e11, e10, e5, e4, e3, e2]
    simp only [xi_pi, xi_pl]
    simp only [show ((9 : Nat) = 14) = False from by simp, show ((9 : Nat) = 11) = False from by simp, show ((9 : Nat) = 8) = False from by simp, show ((9 : Nat) = 7) = False from by simp, false_and, if_false]
    exact rc_fi R (Nat.le_refl _)
  have w96 : ∀ ca, (ca = 0 ∨ ca = 1) → ca = (if op = 22 ∨ op = 26 ∨ op = 27 ∨ op = 28 then 1 else 0) → w_Terms_add_96 Q (nI (bma B)) (nI (bma B)) (nI ca) s11 := fun ca c1 c2 => by
    have nb : vp_nar .boolean (nI ca) = nI ca := by rcases c1 with h | h <;> rw [h] <;> decide
    unfold w_Terms_add_96
    rw [cl, nb, show (1 : Int32) = nI 1 from rfl, nI_add, cl1]
    refine ⟨vi, fun s12 e12 => ⟨vp_in_nI (by omega) (by decide), vp_in_nI (by omega) (by decide), fun s13 e13 s14 e14 => ?_⟩⟩
    have f2 : xi s12 9 (bma B) = nI (bfi B (bma B)) := by rw [e12, xi_pi, if_neg (by omega)]; exact f1
    rw [f2] at e13
    rw [e11, e10, e5, e4, e3, e2] at e12
    rw [e12] at e13
    rw [e13] at e14
    have oo : oB σ s14 := by
      rw [e14]
      exact (((((oB.pi _ 7 _ _ (by decide)).trans (oB.pi _ 8 _ _ (by decide))).trans (oB.pi _ 11 _ _ (by decide))).trans ((oB.pl _ 12 _ _ (.inl rfl)).trans (oB.pl _ 13 _ _ (.inr rfl)))).trans ((oB.pi _ 14 _ _ (by decide)).trans (oB.pi _ 15 _ _ (by decide)))).trans ((oB.pi _ 9 _ _ (by decide)).trans (oB.pi _ 6 _ _ (by decide)))
    refine k s14 (RC_T R ?_ ?_ ?_ ?_ ?_ ?_ ?_ ?_ ?_ ?_ ?_ ?_ ?_) oo
    · rw [e14]; simp [xi_pi, xi_pl]
    · rw [e14]; simp [xi_pi, xi_pl]
    · intro j; rw [e14]; simp [xi_pi, xi_pl]
    · intro j; rw [e14]; simp [xi_pi, xi_pl]
    · intro j; rw [e14]; simp [xi_pi, xi_pl]
    · intro j; rw [e14]; simp [xi_pi, xi_pl]
    · intro j; rw [e14, if_neg (fun z => by have := z.2; simp at this; omega)]; simp [xi_pi, xi_pl]
    · intro j; rw [e14]; simp [xi_pi, xi_pl, e0]
    · intro j; rw [e14]; simp [xi_pi, xi_pl, lwo]
    · intro j
      rw [e14]
      have : cao B op 0 [] = ca := by rw [c2]; rfl
      rw [this]
      simp [xi_pi, xi_pl]
    · intro k' j h1 h2
      rw [e14]
      simp only [xi_pi, xi_pl]
      rw [if_neg (by omega), if_neg (by omega), if_neg (by omega), if_neg (by omega), if_neg (by omega), if_neg (by omega), if_neg (by omega)]
    · intro j; rw [e14]; simp [xl_pi, xl_pl]
    · intro j; rw [e14]; simp [xl_pi, xl_pl]
  unfold w_Terms_add_91
  rw [show (22 : Int32) = nI 22 from rfl, show (26 : Int32) = nI 26 from rfl, show (27 : Int32) = nI 27 from rfl, show (28 : Int32) = nI 28 from rfl, nI_eq (by omega) (by decide), nI_eq (by omega) (by decide), nI_eq (by omega) (by decide), nI_eq (by omega) (by decide)]
  refine ⟨fun z => w96 1 (.inr rfl) (by rw [if_pos (by omega)]), fun z1 => ⟨fun z => w96 1 (.inr rfl) (by rw [if_pos (by omega)]), fun z2 => ⟨fun z => w96 1 (.inr rfl) (by rw [if_pos (by omega)]), fun z3 => ⟨fun z => w96 0 (.inl rfl) (by rw [if_neg (by omega)]), fun z => w96 1 (.inr rfl) (by rw [if_pos (by omega)])⟩⟩⟩⟩
theorem v_keeps (h7 : xi σ 7 t = nI op) (h11 : xi σ 11 t = nI lo) (ht : t < 2000) (ho : op < 64) (hl : lo < 2147483648) (k : Q (.inl (some (.int (bI (kps op lo))))) σ) : wp_Terms_keepsPlaces Q σ (nI t) := by
  unfold wp_Terms_keepsPlaces
  simp (disch := omega) only [i32_lit, l64_lit, lc_eq, lc_ge, lc_le, lc_gt, lc_lt, jL_inj, jL_add, jL_sub, jL_mul, jL_neg, jL_and, jL_or, jL_xor, jL_mone, BitVec.xor_allOnes, nI_clamp, nI_ltI, nI_leI, nI_eq, nI_1, nI_add, nI_sub, nI_addm, nI_mul, vp_in_n, xi_pi, xi_pl, xl_pi, xl_pl, xb_pi, xb_pl, xqi_i, xql_l, xqv_v, xqi_e, xql_e, xqv_e, forall_eq, true_and, and_true, h7, h11]
  unfold kps at k
  refine ⟨fun z => ⟨fun y => ?_, fun y => ?_⟩, fun z => ?_, fun z => ?_⟩
  · rw [if_pos z, decide_eq_false y] at k; exact k
  · rw [if_pos z, decide_eq_true y] at k; exact k
  · rw [if_neg (by omega), decide_eq_true z] at k; exact k
  · rw [if_neg z.1, decide_eq_false (by omega)] at k; exact k
theorem lwo_snoc (a : Nat) (m : Nat) : lwo B (as ++ [a]) m = if bop B a ≠ 47 ∧ blw B a < lwo B as m then blw B a else lwo B as m := by
  unfold lwo
  rw [List.foldl_append]
  rfl
theorem cao_snoc (a : Nat) : cao B op lo (as ++ [a]) = if nI (bca B a) ≠ 0 ∧ kps op lo = true then 1 else cao B op lo as := by
  unfold cao
  rw [List.foldl_append]
  rfl
theorem v_addArg {a : Nat} (R : RC (addT B op so lo bits as) σ) (hm : bma B < 2000) (ha : a < bma B) (hf : bfi B (bma B) + as.length < 80000) (ho : op < 64) (hop : bop B a < 2147483648) (hl : lo < 2147483648) (hw : blw B a < 2147483648)
    (k : ∀ σ', RC (addT B op so lo bits (as ++ [a])) σ' → oB σ σ' → Q (.inl none) σ') : wp_Terms_addArgument Q σ (nI (bma B)) (nI a) := by
  have vt : vp_in (nI (bma B)) 2000 := vp_in_nI hm (by decide)
  have va : vp_in (nI a) 2000 := vp_in_nI (by omega) (by decide)
  have vf : vp_in (nI (bfi B (bma B) + as.length)) 80000 := vp_in_nI hf (by decide)
  have vt1 : vp_in (nI (bma B + 1)) 2001 := vp_in_nI (by omega) (by decide)
  have ct : (nI (bma B)).toNatClampNeg = bma B := nI_clamp (by omega)
  have ca : (nI a).toNatClampNeg = a := nI_clamp (by omega)
  have cf : (nI (bfi B (bma B) + as.length)).toNatClampNeg = bfi B (bma B) + as.length := nI_clamp (by omega)
  have ct1 : (nI (bma B + 1)).toNatClampNeg = bma B + 1 := nI_clamp (by omega)
  have lm : lwo B as (bma B) ≤ bma B := (lwo_le as (bma B)).1
  have R0 := R
  obtain ⟨⟨r1, r2, r3, r4, r5⟩, r6, r7⟩ := R
  have fe : bfi (addT B op so lo bits as) (bma (addT B op so lo bits as)) = bfi B (bma B) + as.length := by rw [aT_m]; exact aT_f
  have q9 : xi σ 9 (bma B + 1) = nI (bfi B (bma B) + as.length) := by
    have := rc_fi R0 (t := bma B + 1) (by rw [aT_m]; omega)
    rw [this, aT_f]
  have q7 : ∀ j, j < bma B → xi σ 7 j = nI (bop B j) := fun j hj => by
    rw [rc_op R0 (by rw [aT_m]; omega)]; exact congrArg nI ((aT_7 j).trans (if_neg (by omega)))
  have q7t : xi σ 7 (bma B) = nI op := by
    rw [rc_op R0 (by rw [aT_m]; omega)]; exact congrArg nI ((aT_7 _).trans (if_pos rfl))
  have q11t : xi σ 11 (bma B) = nI lo := by
    rw [rc_lo R0 (by rw [aT_m]; omega)]; exact congrArg nI ((aT_11 _).trans (if_pos rfl))
  have q14 : ∀ j, j < bma B → xi σ 14 j = nI (blw B j) := fun j hj => by
    rw [rc_lw R0 (by rw [aT_m]; omega)]; exact congrArg nI ((aT_14 j).trans (if_neg (by omega)))
  have q14t : xi σ 14 (bma B) = nI (lwo B as (bma B)) := by
    rw [rc_lw R0 (by rw [aT_m]; omega)]; exact congrArg nI ((aT_14 _).trans (if_pos rfl))
  have q15 : ∀ j, j < bma B → xi σ 15 j = nI (bca B j) := fun j hj => by
    rw [rc_ca R0 (by rw [aT_m]; omega)]; exact congrArg nI ((aT_15 j).trans (if_neg (by omega)))
  have q15t : xi σ 15 (bma B) = nI (cao B op lo as) := by
    rw [rc_ca R0 (by rw [aT_m]; omega)]; exact congrArg nI ((aT_15 _).trans (if_pos rfl))
  -- the end of all roads
  have fin : ∀ σ', oB σ σ' → (∀ k j, 5 ≤ k → k ≤ 22 → ¬ (k = 9 ∧ j = bma B + 1) → ¬ (k = 10 ∧ j = bfi B (bma B) + as.length) → ¬ (k = 14 ∧ j = bma B) → ¬ (k = 15 ∧ j = bma B) → xi σ' k j = xi σ k j) → (∀ k j, xl σ' k j = xl σ k j) → xi σ' 9 (bma B + 1) = nI (bfi B (bma B) + as.length + 1) → xi σ' 10 (bfi B (bma B) + as.length) = nI a → xi σ' 14 (bma B) = nI (lwo B (as ++ [a]) (bma B)) → xi σ' 15 (bma B) = nI (cao B op lo (as ++ [a])) → Q (.inl none) σ' := fun σ' oo hk hl h9 h10 h14 h15 => by
    have len : (as ++ [a]).length = as.length + 1 := List.length_append
    refine k σ' ⟨⟨?_, ?_, ?_, ?_, ?_⟩, fun k j hj => ?_, fun t ht => ?_⟩ oo
    · rw [hk 6 9 (by decide) (by decide) (by omega) (by omega) (by omega) (by omega), aT_m]; rw [aT_m] at r1; exact r1
    · rw [hk 6 10 (by decide) (by decide) (by omega) (by omega) (by omega) (by omega), aT_w]; rw [aT_w] at r2; exact r2
    · rw [hk 5 4 (by decide) (by decide) (by omega) (by omega) (by omega) (by omega)]; exact r3.trans (congrArg nI ((aT_5 4).trans (aT_5 4).symm))
    · rw [hk 5 8 (by decide) (by decide) (by omega) (by omega) (by omega) (by omega)]; exact r4.trans (congrArg nI ((aT_5 8).trans (aT_5 8).symm))
    · rw [hk 5 10 (by decide) (by decide) (by omega) (by omega) (by omega) (by omega)]; exact r5.trans (congrArg nI ((aT_5 10).trans (aT_5 10).symm))
    · have en : ∀ as, bna (addT B op so lo bits as) = bna B := fun as => aT_5 4
      have eh : ∀ as, bth (addT B op so lo bits as) = bth B := fun as => aT_5 8
      have ea : ∀ as, bas (addT B op so lo bits as) = bas B := fun as => aT_5 10
      have hj := bk_cs hj
      rw [aT_m, aT_f, en, eh, ea, aT_k (k := 17) (by decide), len] at hj
      have e17 : ∀ j, (addT B op so lo bits as).1 17 j = B.1 17 j := aT_k (by decide)
      rcases hj with ⟨rfl, h⟩ | ⟨rfl, h⟩ | ⟨rfl, h⟩ | ⟨rfl, h⟩ | ⟨rfl, h⟩ | ⟨rfl, h⟩ | ⟨rfl, h⟩ | ⟨rfl, h⟩ | ⟨rfl, h⟩ | ⟨rfl, h⟩ | ⟨rfl, h⟩ | ⟨rfl, h⟩ | ⟨rfl, h⟩ | ⟨rfl, h⟩
      · rw [hk _ _ (by decide) (by decide) (by omega) (by omega) (by omega) (by omega), r6 7 j (by show j < bma _; rw [aT_m]; exact h), aT_7, aT_7]
      · rw [hk _ _ (by decide) (by decide) (by omega) (by omega) (by omega) (by omega), r6 8 j (by show j < bma _; rw [aT_m]; exact h), aT_8, aT_8]
      · rw [aT_9]
        by_cases q : j = bma B + 1
        · rw [if_pos q, q, h9, len, Nat.add_assoc]
        · rw [if_neg q, hk _ _ (by decide) (by decide) (by omega) (by omega) (by omega) (by omega), r6 9 j (by show j < bma _ + 1; rw [aT_m]; exact h), aT_9, if_neg q]
      · rw [aT_10]
        by_cases q : j = bfi B (bma B) + as.length
        · rw [if_pos (by rw [len]; omega), q, h10, Nat.add_sub_cancel_left]
          congr 1
          rw [List.getD_eq_getElem?_getD, List.getElem?_append_right (Nat.le_refl _), Nat.sub_self]
          rfl
        · rw [hk _ _ (by decide) (by decide) (by omega) (by omega) (by omega) (by omega), r6 10 j (by show j < bfi _ (bma _); rw [fe]; omega), aT_10]
          congr 1
          by_cases q2 : bfi B (bma B) ≤ j
          · rw [if_pos (by omega), if_pos (by rw [len]; omega), List.getD_eq_getElem?_getD, List.getD_eq_getElem?_getD, List.getElem?_append_left (by omega)]
          · rw [if_neg (by omega), if_neg (by omega)]
      · rw [hk _ _ (by decide) (by decide) (by omega) (by omega) (by omega) (by omega), r6 11 j (by show j < bma _; rw [aT_m]; exact h), aT_11, aT_11]
      · rw [aT_14]
        by_cases q : j = bma B
        · rw [if_pos q, q, h14]
        · rw [if_neg q, hk _ _ (by decide) (by decide) (by omega) (by omega) (by omega) (by omega), r6 14 j (by show j < bma _; rw [aT_m]; exact h), aT_14, if_neg q]
      · rw [aT_15]
        by_cases q : j = bma B
        · rw [if_pos q, q, h15]
        · rw [if_neg q, hk _ _ (by decide) (by decide) (by omega) (by omega) (by omega) (by omega), r6 15 j (by show j < bma _; rw [aT_m]; exact h), aT_15, if_neg q]
      · rw [hk _ _ (by decide) (by decide) (by omega) (by omega) (by omega) (by omega), r6 16 j (by show j < (addT B op so lo bits as).1 17 (bna _); rw [en, e17]; exact h), aT_k (by decide), aT_k (by decide)]
      · rw [hk _ _ (by decide) (by decide) (by omega) (by omega) (by omega) (by omega), r6 17 j (by show j < bna _ + 1; rw [en]; exact h), aT_k (by decide), aT_k (by decide)]
      · rw [hk _ _ (by decide) (by decide) (by omega) (by omega) (by omega) (by omega), r6 18 j (by show j < bna _; rw [en]; exact h), aT_k (by decide), aT_k (by decide)]
      · rw [hk _ _ (by decide) (by decide) (by omega) (by omega) (by omega) (by omega), r6 19 j (by show j < bth _; rw [eh]; exact h), aT_k (by decide), aT_k (by decide)]
      · rw [hk _ _ (by decide) (by decide) (by omega) (by omega) (by omega) (by omega), r6 20 j (by show j < bth _; rw [eh]; exact h), aT_k (by decide), aT_k (by decide)]
      · rw [hk _ _ (by decide) (by decide) (by omega) (by omega) (by omega) (by omega), r6 21 j (by show j < bth _ + 1; rw [eh]; exact h), aT_k (by decide), aT_k (by decide)]
      · rw [hk _ _ (by decide) (by decide) (by omega) (by omega) (by omega) (by omega), r6 22 j (by show j < bas _; rw [ea]; exact h), aT_k (by decide), aT_k (by decide)]
    · rw [aT_m] at ht
      have := r7 t (by rw [aT_m]; exact ht)
      rw [hl, hl, this.1, this.2]
      unfold bful
      have e8 : ∀ as, bso (addT B op so lo bits as) t = if t = bma B then so else bso B t := fun as => aT_8 t
      rw [e8, e8]
      exact ⟨rfl, rfl⟩
  have w74 : ∀ s, oB σ s → (∀ k j, 5 ≤ k → k ≤ 22 → ¬ (k = 9 ∧ j = bma B + 1) → ¬ (k = 10 ∧ j = bfi B (bma B) + as.length) → ¬ (k = 14 ∧ j = bma B) → xi s k j = xi σ k j) → (∀ k j, xl s k j = xl σ k j) → xi s 9 (bma B + 1) = nI (bfi B (bma B) + as.length + 1) → xi s 10 (bfi B (bma B) + as.length) = nI a → xi s 14 (bma B) = nI (lwo B (as ++ [a]) (bma B)) → w_Terms_addArgument_74 Q (nI (bma B)) (nI a) s := fun s oo hk hl' h9 h10 h14 => by
    have p15 : xi s 15 a = nI (bca B a) := by rw [hk 15 a (by decide) (by decide) (by omega) (by omega) (by omega)]; exact q15 a ha
    have p15t : xi s 15 (bma B) = nI (cao B op lo as) := by rw [hk 15 _ (by decide) (by decide) (by omega) (by omega) (by omega)]; exact q15t
    have same : cao B op lo (as ++ [a]) = cao B op lo as → Q (.inl none) s := fun h => fin s oo (fun k j h1 h2 h3 h4 h5 h6 => hk k j h1 h2 h3 h4 h5) hl' h9 h10 h14 (by rw [h]; exact p15t)
    unfold w_Terms_addArgument_74
    rw [ca, p15]
    refine ⟨va, fun z => same (by rw [cao_snoc, if_neg (fun y => y.1 z)]), fun z => ?_⟩
    refine v_keeps (op := op) (lo := lo) (by rw [hk 7 _ (by decide) (by decide) (by omega) (by omega) (by omega)]; exact q7t) (by rw [hk 11 _ (by decide) (by decide) (by omega) (by omega) (by omega)]; exact q11t) hm ho hl ?_
    rw [xqi_i]
    refine ⟨fun y => same ?_, fun y => ⟨vt, fun s4 e4 => ?_⟩⟩
    · have y := (bI_0 _).mp y
      rw [cao_snoc, if_neg (fun x => by rw [y] at x; cases x.2)]
    · have y : kps op lo = true := by cases e : kps op lo with
        | true => rfl
        | false => exact absurd ((bI_0 _).mpr e) y
      have nb : vp_nar .boolean (1 : Int32) = nI 1 := by decide
      rw [ct, nb] at e4
      refine fin s4 (oo.trans (by rw [e4]; exact oB.pi _ _ _ _ (by decide))) (fun k j h1 h2 h3 h4 h5 h6 => ?_) (fun k j => ?_) ?_ ?_ ?_ ?_
      · rw [e4, xi_pi, if_neg h6]; exact hk k j h1 h2 h3 h4 h5
      · rw [e4, xl_pi]; exact hl' k j
      · rw [e4, xi_pi, if_neg (by omega)]; exact h9
      · rw [e4, xi_pi, if_neg (by omega)]; exact h10
      · rw [e4, xi_pi, if_neg (by omega)]; exact h14
      · rw [e4, xi_pi, if_pos ⟨rfl, rfl⟩, cao_snoc, if_pos ⟨z, y⟩]
  unfold wp_Terms_addArgument
  rw [show (1 : Int32) = nI 1 from rfl, nI_add, ct1, q9]
  refine ⟨vt1, fun x1 e1 => ?_⟩
  subst e1
  refine ⟨fun z => absurd ((nI_leI (a := 80000) (by decide) (by omega)).mp z) (by omega), fun _ => ⟨vf, fun s6 e6 => ⟨vt1, fun s7 e7 => ?_⟩⟩⟩
  rw [cf] at e6
  rw [nI_add] at e7
  have o7 : oB σ s7 := by rw [e7, e6]; exact (oB.pi _ _ _ _ (by decide)).trans (oB.pi _ _ _ _ (by decide))
  have k7 : ∀ k j, 5 ≤ k → k ≤ 22 → ¬ (k = 9 ∧ j = bma B + 1) → ¬ (k = 10 ∧ j = bfi B (bma B) + as.length) → xi s7 k j = xi σ k j := fun k j h1 h2 h3 h4 => by rw [e7, xi_pi, if_neg h3, e6, xi_pi, if_neg h4]
  have l7 : ∀ k j, xl s7 k j = xl σ k j := fun k j => by rw [e7, xl_pi, e6, xl_pi]
  have d9 : xi s7 9 (bma B + 1) = nI (bfi B (bma B) + as.length + 1) := by rw [e7, xi_pi, if_pos ⟨rfl, rfl⟩]
  have d10 : xi s7 10 (bfi B (bma B) + as.length) = nI a := by rw [e7, xi_pi, if_neg (by omega), e6, xi_pi, if_pos ⟨rfl, rfl⟩]
  have d14 : xi s7 14 (bma B) = nI (lwo B as (bma B)) := by rw [k7 14 _ (by decide) (by decide) (by omega) (by omega)]; exact q14t
  have d14a : xi s7 14 a = nI (blw B a) := by rw [k7 14 _ (by decide) (by decide) (by omega) (by omega)]; exact q14 a ha
  have d7a : xi s7 7 a = nI (bop B a) := by rw [k7 7 _ (by decide) (by decide) (by omega) (by omega)]; exact q7 a ha
  unfold w_Terms_addArgument_36
  rw [ca, ct, d7a, d14, d14a, show (47 : Int32) = nI 47 from rfl, nI_eq hop (by decide)]
  have st : lwo B (as ++ [a]) (bma B) = lwo B as (bma B) → w_Terms_addArgument_74 Q (nI (bma B)) (nI a) s7 := fun h => w74 s7 o7 (fun k j h1 h2 h3 h4 _ => k7 k j h1 h2 h3 h4) l7 d9 d10 (by rw [h]; exact d14)
  refine ⟨va, fun z => st (by rw [lwo_snoc, if_neg (fun y => y.1 z)]), fun z => ⟨va, vt, fun y => st ?_, fun y => ⟨va, vt, fun s5 e5 => ?_⟩⟩⟩
  · have y := (nI_leI (by omega) (by omega)).mp y
    rw [lwo_snoc, if_neg (by omega)]
  · have y : ¬ lwo B as (bma B) ≤ blw B a := fun x => y ((nI_leI (by omega) (by omega)).mpr x)
    refine w74 s5 (o7.trans (by rw [e5]; exact oB.pi _ _ _ _ (by decide))) (fun k j h1 h2 h3 h4 h5 => ?_) (fun k j => ?_) ?_ ?_ ?_
    · rw [e5, xi_pi, if_neg h5]; exact k7 k j h1 h2 h3 h4
    · rw [e5, xl_pi]; exact l7 k j
    · rw [e5, xi_pi, if_neg (by omega)]; exact d9
    · rw [e5, xi_pi, if_neg (by omega)]; exact d10
    · rw [e5, xi_pi, if_pos ⟨rfl, rfl⟩, lwo_snoc, if_pos ⟨z, by omega⟩]
end CBOOK
