/-! THE CLASS READS: things, sorts, weights -/
theorem szs_le {s : Nat} (h : okS s) : 1 ≤ szs s ∧ szs s ≤ 4096 := by
  obtain ⟨h1, h2, h3⟩ := h
  unfold szs
  split
  · decide
  · have a : 2 ^ (s / 128) ≤ 2 ^ 6 := Nat.pow_le_pow_right (by decide) h1
    have b := Nat.mul_le_mul h2 a
    have d : 1 ≤ 2 ^ (s / 128) := Nat.one_le_two_pow
    have e := Nat.mul_le_mul (show 1 ≤ s % 128 by omega) d
    omega
theorem pMk_er {B : Bk} {beg op so lo wt op' so' lo' : Nat} {bits bits' : BitVec 64} {as as' : List Nat} {e : Nat × Nat} (h : pMk B beg op so lo bits as wt = .error e) : pMk B beg op' so' lo' bits' as' wt = .error e := by
  unfold pMk at h ⊢
  split at h
  · rename_i z; rw [if_pos z]; exact h
  · rename_i z
    rw [if_neg z]
    split at h
    · rename_i y; rw [if_pos y]; exact h
    · cases h
theorem pMk_ok {B : Bk} {beg op so lo wt : Nat} {bits : BitVec 64} {as : List Nat} (h1 : bma B < 2000) (h2 : bwe B + wt ≤ 100000) : pMk B beg op so lo bits as wt = .ok (bma B, addT (wtB B (bwe B + wt)) op so lo bits as) := by
  unfold pMk
  rw [if_neg (by omega), if_neg (by omega)]
section CM
variable {c : Nat → Nat} {l N : Nat} {B : Bk} {top nb i j : Nat} {σ : xS} {Q : xO → xS → Prop}
theorem CS.bk {B' : Bk} {σ' : xS} (S : CS c l N B top nb i σ) (o : oB σ σ') (R : RC B' σ') : CS c l N B' top nb i σ' := by
  obtain ⟨⟨t1, t2, t3, t4⟩, b, d, e, f, g, h, hi, c1, c2, c3, c4⟩ := S
  have q : ∀ a b, ¬ (5 ≤ a ∧ a ≤ 22) → xi σ' a b = xi σ a b := o.1
  exact ⟨⟨(q 1 1 (by omega)).trans t1, t2, fun k hk => ⟨(t3 k hk).1, (q 2 k (by omega)).trans (t3 k hk).2⟩, fun n hn => (q 4 n (by omega)).trans (t4 n hn)⟩, ⟨fun k hk => (o.2.1 3 k (by decide) (by decide)).trans (b.1 k hk), (q 1 5 (by omega)).trans b.2⟩, R, (q 1 6 (by omega)).trans e, (q 24 4 (by omega)).trans f, (q 24 9 (by omega)).trans g, by rw [o.2.2]; exact h, hi, (q 1 9 (by omega)).trans c1, (q 1 10 (by omega)).trans c2, (q 1 11 (by omega)).trans c3, (q 1 12 (by omega)).trans c4⟩
theorem v_addThing {so : Nat} (R : RC (addT B 47 so 0 0#64 []) σ) (hm : bma B < 2000) (ht : bth B < 500) (hs : okS so) (k : ∀ σ', RC (addTh (addT B 47 so (bth B) 0#64 []) (bma B)) σ' → oB σ σ' → Q (.inl none) σ') : wp_Book_addThing Q σ (nI (bma B)) := by
  obtain ⟨⟨r1, r2, r3, r4, r5⟩, r6, r7⟩ := R
  have et : bth (addT B 47 so 0 0#64 []) = bth B := aT_5 8
  have en : bna (addT B 47 so 0 0#64 []) = bna B := aT_5 4
  rw [et] at r4
  rw [en] at r3
  have f8 : xi σ 8 (bma B) = nI so := by
    rw [r6 8 (bma B) (by show bma B < bma _; rw [aT_m]; omega), aT_8, if_pos rfl]
  have f21 : xi σ 21 (bth B) = nI (bsz B) := by
    rw [r6 21 (bth B) (by show bth B < bth _ + 1; rw [et]; omega), aT_k (by decide)]
  have ct : (nI (bma B)).toNatClampNeg = bma B := nI_clamp (by omega)
  have ch : (nI (bth B)).toNatClampNeg = bth B := nI_clamp (by omega)
  have vt : vp_in (nI (bma B)) 2000 := vp_in_nI hm (by decide)
  have vh : vp_in (nI (bth B)) 500 := vp_in_nI ht (by decide)
  unfold wp_Book_addThing
  rw [ct, r4]
  refine ⟨vt, fun s1 e1 => ?_⟩
  have a1 : xi s1 5 8 = nI (bth B) := by rw [e1, xi_pi, if_neg (by omega)]; exact r4
  rw [a1, ch]
  refine ⟨vh, fun s2 e2 => ?_⟩
  have a2 : xi s2 5 8 = nI (bth B) := by rw [e2, xi_pi, if_neg (by omega)]; exact a1
  have a2' : xi s2 5 4 = nI (bna B) := by rw [e2, xi_pi, if_neg (by omega), e1, xi_pi, if_neg (by omega)]; exact r3
  rw [a2, a2', ch]
  refine ⟨vh, fun s3 e3 => ?_⟩
  have a3 : xi s3 5 8 = nI (bth B) := by rw [e3, xi_pi, if_neg (by omega)]; exact a2
  have b3 : xi s3 8 (bma B) = nI so := by rw [e3, xi_pi, if_neg (by omega), e2, xi_pi, if_neg (by omega), e1, xi_pi, if_neg (by omega)]; exact f8
  have d3 : xi s3 21 (bth B) = nI (bsz B) := by rw [e3, xi_pi, if_neg (by omega), e2, xi_pi, if_neg (by omega), e1, xi_pi, if_neg (by omega)]; exact f21
  rw [a3, ch, b3, d3]
  refine ⟨vp_in_nI (by omega) (by decide), vt, ?_⟩
  refine p_size hs ?_
  rw [xqi_i, show (1 : Int32) = nI 1 from rfl, nI_add, nI_add, nI_clamp (by omega)]
  refine ⟨vp_in_nI (by omega) (by decide), fun s6 e6 s7 e7 => ?_⟩
  have a6 : xi s6 5 8 = nI (bth B) := by rw [e6, xi_pi, if_neg (by omega)]; exact a3
  rw [a6, nI_add] at e7
  have o7 : oB σ s7 := by rw [e7, e6, e3, e2, e1]; exact (((oB.pi _ _ _ _ (by decide)).trans (oB.pi _ _ _ _ (by decide))).trans (oB.pi _ _ _ _ (by decide))).trans ((oB.pi _ _ _ _ (by decide)).trans (oB.pi _ _ _ _ (by decide)))
  have pt : ∀ a b, ¬ (a = 11 ∧ b = bma B) → ¬ (a = 19 ∧ b = bth B) → ¬ (a = 20 ∧ b = bth B) → ¬ (a = 21 ∧ b = bth B + 1) → ¬ (a = 5 ∧ b = 8) → xi s7 a b = xi σ a b := fun a b h1 h2 h3 h4 h5 => by rw [e7, xi_pi, if_neg h5, e6, xi_pi, if_neg h4, e3, xi_pi, if_neg h3, e2, xi_pi, if_neg h2, e1, xi_pi, if_neg h1]
  have lt : ∀ a b, xl s7 a b = xl σ a b := fun a b => by rw [e7, xl_pi, e6, xl_pi, e3, xl_pi, e2, xl_pi, e1, xl_pi]
  have w8 : xi s7 5 8 = nI (bth B + 1) := by rw [e7, xi_pi, if_pos ⟨rfl, rfl⟩]
  have w21 : xi s7 21 (bth B + 1) = nI (bsz B + szs so) := by rw [e7, xi_pi, if_neg (by omega), e6, xi_pi, if_pos ⟨rfl, rfl⟩]
  have w20 : xi s7 20 (bth B) = nI (bna B) := by rw [e7, xi_pi, if_neg (by omega), e6, xi_pi, if_neg (by omega), e3, xi_pi, if_pos ⟨rfl, rfl⟩]
  have w19 : xi s7 19 (bth B) = nI (bma B) := by rw [e7, xi_pi, if_neg (by omega), e6, xi_pi, if_neg (by omega), e3, xi_pi, if_neg (by omega), e2, xi_pi, if_pos ⟨rfl, rfl⟩]
  have w11 : xi s7 11 (bma B) = nI (bth B) := by rw [e7, xi_pi, if_neg (by omega), e6, xi_pi, if_neg (by omega), e3, xi_pi, if_neg (by omega), e2, xi_pi, if_neg (by omega), e1, xi_pi, if_pos ⟨rfl, rfl⟩]
  obtain ⟨C, hC⟩ : ∃ C, C = addT B 47 so (bth B) 0#64 [] := ⟨_, rfl⟩
  obtain ⟨D, hD⟩ : ∃ D, D = addT B 47 so 0 0#64 [] := ⟨_, rfl⟩
  rw [← hD] at r1 r2 r5 r6 r7
  have cd : ∀ a b, ¬ (a = 11 ∧ b = bma B) → C.1 a b = D.1 a b := fun a b h => by
    rw [hC, hD]
    unfold addT
    dsimp only
    have e15 : cao B 47 (bth B) [] = cao B 47 0 [] := rfl
    rw [e15, if_neg (c := a = 11 ∧ b = bma B) h, if_neg (c := a = 11 ∧ b = bma B) h]
  have cm : bma C = bma D := cd 6 9 (by omega)
  have dm : bma D = bma B + 1 := by rw [hD]; exact aT_m
  have ch' : bth C = bth B := by rw [hC]; exact aT_5 8
  have cn' : bna C = bna B := by rw [hC]; exact aT_5 4
  have dh : bth D = bth B := by rw [hD]; exact et
  have dn : bna D = bna B := by rw [hD]; exact en
  have em : bma (addTh C (bma B)) = bma D := (aH_k (by decide) 9).trans cm
  have eh2 : bth (addTh C (bma B)) = bth B + 1 := by show (addTh C (bma B)).1 5 8 = _; rw [aH_5, if_pos rfl, ch']
  have en2 : bna (addTh C (bma B)) = bna D := by show (addTh C (bma B)).1 5 4 = _; rw [aH_5, if_neg (by decide)]; exact cd 5 4 (by omega)
  have ea2 : bas (addTh C (bma B)) = bas D := by show (addTh C (bma B)).1 5 10 = _; rw [aH_5, if_neg (by decide)]; exact cd 5 10 (by omega)
  have c8 : bso C (bma B) = so := by rw [hC]; exact (aT_8 _).trans (if_pos rfl)
  have cs : bsz C = bsz B := by rw [hC]; exact aT_sz
  have ef : bfi (addTh C (bma B)) (bma D) = bfi D (bma D) := (aH_k (by decide) _).trans (cd 9 _ (by omega))
  have e17 : (addTh C (bma B)).1 17 (bna D) = D.1 17 (bna D) := (aH_k (by decide) _).trans (cd 17 _ (by omega))
  rw [← hC] at k
  refine k s7 ⟨⟨?_, ?_, ?_, ?_, ?_⟩, fun k j hj => ?_, fun t ht => ?_⟩ o7
  · rw [pt 6 9 (by omega) (by omega) (by omega) (by omega) (by omega), em]; exact r1
  · rw [pt 6 10 (by omega) (by omega) (by omega) (by omega) (by omega)]; exact r2.trans (congrArg nI ((aH_k (by decide) 10).trans (cd 6 10 (by omega))).symm)
  · rw [pt 5 4 (by omega) (by omega) (by omega) (by omega) (by omega), en2, dn]; exact r3
  · rw [w8, eh2]
  · rw [pt 5 10 (by omega) (by omega) (by omega) (by omega) (by omega), ea2]; exact r5
  · have hj := bk_cs hj
    rw [em, eh2, ea2, en2, ef, e17] at hj
    have old : ∀ k, k ≠ 11 → k ≠ 19 → k ≠ 20 → k ≠ 21 → k ≠ 5 → j < bkB D k → xi s7 k j = nI ((addTh C (bma B)).1 k j) := fun k h11 h19 h20 h21 h5 hb => by
      rw [pt k j (by omega) (by omega) (by omega) (by omega) (by omega), aH_k ⟨h5, h19, h20, h21⟩, cd k j (by omega)]
      exact r6 k j hb
    rcases hj with ⟨rfl, h⟩ | ⟨rfl, h⟩ | ⟨rfl, h⟩ | ⟨rfl, h⟩ | ⟨rfl, h⟩ | ⟨rfl, h⟩ | ⟨rfl, h⟩ | ⟨rfl, h⟩ | ⟨rfl, h⟩ | ⟨rfl, h⟩ | ⟨rfl, h⟩ | ⟨rfl, h⟩ | ⟨rfl, h⟩ | ⟨rfl, h⟩
    case inr.inr.inr.inr.inl =>
      rw [aH_k (by decide)]
      by_cases z : j = bma B
      · rw [z, w11, hC, aT_11, if_pos rfl]
      · rw [pt _ _ (by omega) (by omega) (by omega) (by omega) (by omega), cd _ _ (by omega)]
        exact r6 11 j h
    case inr.inr.inr.inr.inr.inr.inr.inr.inr.inr.inl =>
      rw [aH_19, ch']
      by_cases z : j = bth B
      · rw [if_pos z, z, w19]
      · rw [if_neg z, pt _ _ (by omega) (by omega) (by omega) (by omega) (by omega), cd _ _ (by omega)]
        exact r6 19 j (show j < bth D by rw [dh]; omega)
    case inr.inr.inr.inr.inr.inr.inr.inr.inr.inr.inr.inl =>
      rw [aH_20, ch', cn']
      by_cases z : j = bth B
      · rw [if_pos z, z, w20]
      · rw [if_neg z, pt _ _ (by omega) (by omega) (by omega) (by omega) (by omega), cd _ _ (by omega)]
        exact r6 20 j (show j < bth D by rw [dh]; omega)
    case inr.inr.inr.inr.inr.inr.inr.inr.inr.inr.inr.inr.inl =>
      rw [aH_21, ch', cs, c8]
      by_cases z : j = bth B + 1
      · rw [if_pos z, z, w21]
      · rw [if_neg z, pt _ _ (by omega) (by omega) (by omega) (by omega) (by omega), cd _ _ (by omega)]
        exact r6 21 j (show j < bth D + 1 by rw [dh]; omega)
    all_goals exact old _ (by decide) (by decide) (by decide) (by decide) (by decide) h
  · rw [em] at ht
    rw [lt, lt]
    have := r7 t ht
    have e2 : (addTh C (bma B)).2 t = D.2 t := by rw [hC, hD]; rfl
    have e8 : bso (addTh C (bma B)) t = bso D t := (aH_k (by decide) _).trans (cd 8 _ (by omega))
    rw [e2]
    unfold bful at this ⊢
    rw [e8]
    exact this
theorem v_declare (H : okN c l N) (g : gB B) (S : CS0 c l N B top nb j σ) (kf : ∀ e σ', pDc c l B j = .error e → FL B e σ σ' → Q (.inr 0) σ') (ko : ∀ r σ', pDc c l B j = .ok r → CS c l N r.1 top nb r.2 σ' → FR top nb σ σ' → Q (.inl none) σ') : wp_Reader_declare Q σ := by
  unfold wp_Reader_declare
  refine v_newName H g S (fun e σ' h f => ?_) (fun σ1 h1 S1 o1 => ?_)
  · rw [xqv_e]
    exact kf e σ' (eb_er h) f
  · rw [xqv_v]
    obtain ⟨n1, n2, n3, n4, n5⟩ := pNew_i h1
    have b1 := H.lt S1.2.2.2.2.2.2.2.1 (by omega)
    have ca := S1.2.2.2.2.2.2.2.2
    intro x3 e3 x4 e4
    rw [ca.2.1] at e3
    rw [ca.2.2.1] at e4
    subst e3 e4
    have u : pDc c l B j = eb (pSo c l (j + 1)) fun s => eb (pMk B (tF c l j) 47 s.1 (bth B) 0#64 [] (szs s.1)) fun r => .ok (addNm (addTh r.2 r.1) (tW c l j) r.1, s.2) := eb_ok h1
    refine v_sort H (S1.n b1) (fun e σ' h f => ?_) (fun s k2 σ2 h2 S2 o2 => ?_)
    · rw [xqi_e]
      exact kf e σ' (u.trans (eb_er h)) (FL.j o1 f)
    · rw [xqi_i]
      rw [eb_ok h2] at u
      obtain ⟨s1, s2, s3, s4, s5⟩ := pSo_i H (i := j + 1) b1 h2
      have sl := szs_le s1
      refine p_size s1 ?_
      rw [xqi_i]
      refine v_make (bits := 0#64) (op := 47) S2.2.2.1 g S2.2.2.2.2.2.2.1 s1 (by decide) (by omega) rfl (fun e σ' h f => ?_) (fun σ3 m1 m2 R3 o3 => ?_)
      · rw [xqi_e]
        exact kf e σ' (u.trans (eb_er (pMk_er h))) (FL.j o1 (FL.j o2 f))
      · rw [xqi_i]
        rw [eb_ok (pMk_ok m1 m2)] at u
        have e0 : ∀ a b, ¬ (a = 6 ∧ b = 10) → (wtB B (bwe B + szs s)).1 a b = B.1 a b := fun a b q => wB_k q
        have et : bth (wtB B (bwe B + szs s)) = bth B := e0 5 8 (by decide)
        have t5 := g.2.2.2.1
        have ad : wp_Book_addThing (xqv (fun u11 => wp_Book_addName (xqv (fun u13 => Q (.inl none) u13) (fun n u => Q (.inr n) u)) u11 (nI (tF c l j)) (nI (tE c l j)) (nI (bma B))) (fun n u => Q (.inr n) u)) σ3 (nI (bma (wtB B (bwe B + szs s)))) := by
          refine v_addThing (so := s) R3 (by rw [wB_m]; exact m1) (by rw [et]; omega) s1 (fun σ4 R4 o4 => ?_)
          rw [xqv_v]
          rw [wB_m, et] at R4
          have en : bna (addTh (addT (wtB B (bwe B + szs s)) 47 s (bth B) 0#64 []) (bma B)) = bna B := by
            show (addTh _ _).1 5 4 = _
            rw [aH_5, if_neg (by decide), aT_5]
            exact e0 5 4 (by decide)
          have e17 : (addTh (addT (wtB B (bwe B + szs s)) 47 s (bth B) 0#64 []) (bma B)).1 17 (bna B) = B.1 17 (bna B) := by
            rw [aH_k (by decide), aT_k (by decide)]
            exact e0 17 _ (fun z => absurd z.1 (by decide))
          have S4 := S2.bk (o3.trans o4) R4
          refine v_addName H S4.1 R4 n1 (by rw [en]; exact n4) (by rw [en, e17]; exact n5) (fun σ5 R5 o5 => ?_)
          rw [xqv_v]
          exact ko _ σ5 u (S4.bk o5 R5) (((o1.trans o2).F (by decide) (by decide)).trans (((o3.trans o4).trans o5).F))
        rw [wB_m] at ad
        exact ad
theorem v_fitM {op n : Nat} (ho : op < 64) (hn : n < 2147483648) (k : Q (.inl (some (.int (bI (fitM op n))))) σ) : wp_Reader_fitsMany Q σ (nI op) (nI n) := by
  unfold wp_Reader_fitsMany
  unfold fitM at k
  simp (disch := omega) only [i32_lit, l64_lit, lc_eq, lc_ge, lc_le, lc_gt, lc_lt, jL_inj, jL_add, jL_sub, jL_mul, jL_neg, jL_and, jL_or, jL_xor, jL_mone, BitVec.xor_allOnes, nI_clamp, nI_ltI, nI_leI, nI_eq, nI_1, nI_add, nI_sub, nI_addm, nI_mul, vp_in_n, xi_pi, xi_pl, xl_pi, xl_pl, xb_pi, xb_pl, xqi_i, xql_l, xqv_v, xqi_e, xql_e, xqv_e, forall_eq, true_and, and_true]
  refine ⟨fun z => ?_, fun z => ?_, fun z => ?_, fun z => ?_⟩
  · rw [if_pos z] at k
    refine ⟨fun y => ?_, fun y => ?_⟩
    · rw [decide_eq_false y] at k; exact k
    · rw [decide_eq_true y] at k; exact k
  · rw [if_neg (by omega), if_pos z] at k
    refine ⟨fun y => ?_, fun y => ?_⟩
    · rw [decide_eq_false (by omega)] at k; exact k
    · rw [decide_eq_true (by omega)] at k; exact k
  · rw [if_neg (by omega), if_neg (by omega), if_pos z] at k
    refine ⟨fun y => ?_, fun y => ?_⟩
    · rw [decide_eq_false y] at k; exact k
    · rw [decide_eq_true y] at k; exact k
  · rw [if_neg (by omega), if_neg (by omega), if_neg (by omega)] at k
    refine ⟨fun y => ?_, fun y => ?_⟩
    · rw [decide_eq_false y] at k; exact k
    · rw [decide_eq_true y] at k; exact k
theorem v_wgh {op own s n : Nat} (ho : op < 64) (hn : 1 ≤ n) (k : Q (.inl (some (.int (nI (wgh op own s n))))) σ) : wp_Reader_weigh Q σ (nI op) (nI own) (nI s) (nI n) := by
  unfold wp_Reader_weigh
  unfold wgh at k
  simp (disch := omega) only [i32_lit, l64_lit, lc_eq, lc_ge, lc_le, lc_gt, lc_lt, jL_inj, jL_add, jL_sub, jL_mul, jL_neg, jL_and, jL_or, jL_xor, jL_mone, BitVec.xor_allOnes, nI_clamp, nI_ltI, nI_leI, nI_eq, nI_1, nI_add, nI_sub, nI_addm, nI_mul, vp_in_n, xi_pi, xi_pl, xl_pi, xl_pl, xb_pi, xb_pl, xqi_i, xql_l, xqv_v, xqi_e, xql_e, xqv_e, forall_eq, true_and, and_true]
  refine ⟨fun z => ?_, fun z => ?_, fun z => ?_, fun z => ?_, fun z => ?_, fun z => ?_, fun z => ?_, fun z => ?_, fun z => ?_, fun z => ?_, fun z => ?_, fun z => ?_, fun z => ?_⟩
  · rw [if_pos z] at k; exact k
  · rw [if_neg (by omega), if_pos z] at k; exact k
  · rw [if_neg (by omega), if_neg (by omega), if_pos z] at k; exact k
  · rw [if_neg (by omega), if_neg (by omega), if_neg (by omega), if_pos z] at k; exact k
  · rw [if_neg (by omega), if_neg (by omega), if_neg (by omega), if_neg (by omega), if_pos z] at k; exact k
  · rw [if_neg (by omega), if_neg (by omega), if_neg (by omega), if_neg (by omega), if_neg (by omega), if_pos z] at k; exact k
  · rw [if_neg (by omega), if_neg (by omega), if_neg (by omega), if_neg (by omega), if_neg (by omega), if_neg (by omega), if_pos z] at k; exact k
  · rw [if_neg (by omega), if_neg (by omega), if_neg (by omega), if_neg (by omega), if_neg (by omega), if_neg (by omega), if_neg (by omega), if_pos z] at k; exact k
  · rw [if_neg (by omega), if_neg (by omega), if_neg (by omega), if_neg (by omega), if_neg (by omega), if_neg (by omega), if_neg (by omega), if_neg (by omega), if_pos z] at k; exact k
  · rw [if_neg (by omega), if_neg (by omega), if_neg (by omega), if_neg (by omega), if_neg (by omega), if_neg (by omega), if_neg (by omega), if_neg (by omega), if_neg (by omega), if_pos z] at k; exact k
  · rw [if_neg (by omega), if_neg (by omega), if_neg (by omega), if_neg (by omega), if_neg (by omega), if_neg (by omega), if_neg (by omega), if_neg (by omega), if_neg (by omega), if_neg (by omega), if_pos z] at k; exact k
  · rw [if_neg (by omega), if_neg (by omega), if_neg (by omega), if_neg (by omega), if_neg (by omega), if_neg (by omega), if_neg (by omega), if_neg (by omega), if_neg (by omega), if_neg (by omega), if_neg (by omega), if_pos z] at k; exact k
  · rw [if_neg (by omega), if_neg (by omega), if_neg (by omega), if_neg (by omega), if_neg (by omega), if_neg (by omega), if_neg (by omega), if_neg (by omega), if_neg (by omega), if_neg (by omega), if_neg (by omega), if_neg (by omega)] at k; exact k
end CM
