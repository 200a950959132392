/-! THE CLASS READS: sorts, names, terms made -/
abbrev jS : List Nat := [6, 9, 10, 11, 12]
theorem FL.j {B : Bk} {e : Nat × Nat} {σ σ1 σ' : xS} (o : oJ jS σ σ1) (f : FL B e σ1 σ') : FL B e σ σ' := FL.pre (top := 0) (nb := 0) (o.F (by decide) (by decide)) (bex.refl _) f
section CR2
variable {c : Nat → Nat} {l N : Nat} {B : Bk} {top nb i j : Nat} {σ : xS} {Q : xO → xS → Prop}
theorem v_width {most : Nat} (H : okN c l N) (hm : most ≤ 64) (S : CS0 c l N B top nb j σ) (kf : ∀ e σ', pWd c l j most = .error e → FL B e σ σ' → Q (.inr 0) σ') (ko : ∀ w σ', pWd c l j most = .ok w → CS c l N B top nb (j + 2) σ' → oJ jS σ σ' → Q (.inl (some (.int (nI w)))) σ') : wp_Reader_width Q σ (nI most) := by
  unfold wp_Reader_width
  refine v_expR (r0 := 5) H (by decide) S (fun e σ' h f => ?_) (fun σ1 h1 S1 o1 => ?_)
  · rw [xqv_e]
    exact kf e σ' (eb_er h) f
  · rw [xqv_v]
    have a1 := tok_R (pXR_i h1)
    have b1 := H.lt S1.2.2.2.2.2.2.2.1 (by omega)
    refine v_num H (S1.n b1) (fun e σ' h1' h2' f => ?_) (fun v σ2 g1 g2 g3 S2 o2 => ?_)
    · rw [xqi_e]
      refine kf e σ' ?_ (FL.j o1 f)
      unfold pWd
      rw [eb_ok h1]
      refine eb_er ?_
      unfold pN
      by_cases q : tK c l (j + 1) = 2
      · obtain ⟨q1, q2⟩ := h1' q
        rw [if_pos q, if_neg (by omega), q2]
      · rw [if_neg q, h2' q]
    · rw [xqi_i]
      have b2 := H.lt S2.2.2.2.2.2.2.2.1 (by omega)
      have fl : ¬ (1 ≤ v ∧ v ≤ most) → w_Reader_width_20 Q σ2 := fun q => by
        unfold w_Reader_width_20
        refine v_fail (ek := 7) (ep := tF c l (j + 1)) S2.2.2.1 S2.2.2.2.2.2.2.1 rfl S2.2.2.2.2.2.2.2.2.2.1 (fun σ' f => ?_)
        rw [xqi_e]
        refine kf _ σ' ?_ (FL.j o1 (FL.j o2 f))
        unfold pWd
        rw [eb_ok h1]
        refine eb_er ?_
        unfold pN
        rw [if_pos g1, if_neg (by rw [← g2]; exact q)]
      rw [show (1 : Int32) = nI 1 from rfl, nI_ltI (by omega) (by decide), nI_leI (by omega) (by omega)]
      refine ⟨fun z => fl (by omega), fun z => ⟨fun y => ?_, fun y => fl (by omega)⟩⟩
      have pn : pN c l (j + 1) 1 most = .ok v := by
        unfold pN
        rw [if_pos g1, if_pos (by rw [← g2]; omega), g2]
      refine v_expect (k0 := 1) H (by decide) (S2.n b2) (fun e σ' h f => ?_) (fun σ3 h3 S3 o3 => ?_)
      · rw [xqv_e]
        refine kf e σ' ?_ (FL.j o1 (FL.j o2 f))
        unfold pWd
        rw [eb_ok h1, eb_ok pn]
        exact eb_er h
      · rw [xqv_v]
        refine ko v σ3 ?_ S3 (o1.trans (o2.trans o3))
        unfold pWd
        rw [eb_ok h1, eb_ok pn]
        exact eb_ok h3
theorem pX_ok {k : Nat} (h : tK c l i = k) : pX c l i k = .ok () := if_pos h
theorem pXR_ok {r : Nat} (h : tR c l i = some r) : pXR c l i r = .ok () := if_pos h
theorem v_sort (H : okN c l N) (S : CS0 c l N B top nb j σ) (kf : ∀ e σ', pSo c l j = .error e → FL B e σ σ' → Q (.inr 0) σ') (ko : ∀ s k σ', pSo c l j = .ok (s, k) → CS c l N B top nb k σ' → oJ jS σ σ' → Q (.inl (some (.int (nI s)))) σ') : wp_Reader_sort Q σ := by
  have ht : ∀ j, tK c l j < 256 := fun j => (tok_ok (c := c) (j := j) H.2.1).2.2.1
  unfold wp_Reader_sort
  refine v_next H S (fun σ1 S1 o1 => ?_)
  rw [xqv_v]
  have ca1 := S1.2.2.2.2.2.2.2.2
  have t1 := ht j
  rw [ca1.1, ca1.2.2.2, show (3 : Int32) = nI 3 from rfl, supI_eq (fun m h => tR_lt h) (by decide), show (0 : Int32) = nI 0 from rfl, nI_eq (by omega) (by decide)]
  refine ⟨fun n3 => ⟨fun k0 => ?_, fun n0 => ?_⟩, fun y3 => ?_⟩
  · have b1 := H.lt S1.2.2.2.2.2.2.2.1 (by omega)
    have u1 : ∀ f : Unit → PE (Nat × Nat), pSo c l j = eb (pX c l j 0) (fun _ => if tR c l (j + 1) = some 4 then eb (pWd c l (j + 2) 64) fun w => .ok (w, j + 4) else eb (pXR c l (j + 1) 6) fun _ => eb (pX c l (j + 2) 0) fun _ => eb (pXR c l (j + 3) 4) fun _ => eb (pWd c l (j + 4) 6) fun iw => eb (pX c l (j + 7) 0) fun _ => eb (pXR c l (j + 8) 4) fun _ => eb (pWd c l (j + 9) 64) fun w => eb (pX c l (j + 12) 1) fun _ => .ok (128 * iw + w, j + 12)) := fun f => by unfold pSo; rw [if_neg n3]
    have u1 := u1 (fun _ => .ok (0, 0))
    rw [eb_ok (pX_ok k0)] at u1
    refine v_next H (S1.n b1) (fun σ2 S2 o2 => ?_)
    rw [xqv_v]
    have ca2 := S2.2.2.2.2.2.2.2.2
    rw [ca2.2.2.2, show (4 : Int32) = nI 4 from rfl, show (6 : Int32) = nI 6 from rfl, supI_eq (fun m h => tR_lt h) (by decide), supI_eq (fun m h => tR_lt h) (by decide)]
    refine ⟨fun n4 => ⟨fun y6 => ?_, fun n6 => ?_⟩, fun y4 => ?_⟩
    · rw [if_neg n4, eb_ok (pXR_ok y6)] at u1
      have b2 := H.lt S2.2.2.2.2.2.2.2.1 (by have := (tok_R y6).1; omega)
      have O2 := o1.trans o2
      refine v_expect (k0 := 0) H (by decide) (S2.n b2) (fun e σ' h f => ?_) (fun σ3 h3 S3 o3 => ?_)
      · rw [xqv_e]; exact kf e σ' (u1.trans (eb_er h)) (FL.j O2 f)
      · rw [xqv_v]
        rw [eb_ok h3] at u1
        have b3 := H.lt S3.2.2.2.2.2.2.2.1 (by have := pX_i h3; omega)
        have O3 := O2.trans o3
        refine v_expR (r0 := 4) H (by decide) (S3.n b3) (fun e σ' h f => ?_) (fun σ4 h4 S4 o4 => ?_)
        · rw [xqv_e]; exact kf e σ' (u1.trans (eb_er h)) (FL.j O3 f)
        · rw [xqv_v]
          rw [eb_ok h4] at u1
          have b4 := H.lt S4.2.2.2.2.2.2.2.1 (by have := (tok_R (pXR_i h4)).1; omega)
          have O4 := O3.trans o4
          refine v_width (most := 6) H (by decide) (S4.n b4) (fun e σ' h f => ?_) (fun iw σ5 h5 S5 o5 => ?_)
          · rw [xqi_e]; exact kf e σ' (u1.trans (eb_er h)) (FL.j O4 f)
          · rw [xqi_i]
            rw [eb_ok h5] at u1
            have w5 := pWd_i H (i := j + 4) b4 h5
            have O5 := O4.trans o5
            refine v_expect (k0 := 0) H (by decide) (S5.n (show j + 4 + 2 < N from w5.2.2.1)) (fun e σ' h f => ?_) (fun σ6 h6 S6 o6 => ?_)
            · rw [xqv_e]; exact kf e σ' (u1.trans (eb_er h)) (FL.j O5 f)
            · rw [xqv_v]
              rw [eb_ok h6] at u1
              have b6 := H.lt S6.2.2.2.2.2.2.2.1 (by have := pX_i h6; omega)
              have O6 := O5.trans o6
              refine v_expR (r0 := 4) H (by decide) (S6.n b6) (fun e σ' h f => ?_) (fun σ7 h7 S7 o7 => ?_)
              · rw [xqv_e]; exact kf e σ' (u1.trans (eb_er h)) (FL.j O6 f)
              · rw [xqv_v]
                rw [eb_ok h7] at u1
                have b7 := H.lt S7.2.2.2.2.2.2.2.1 (by have := (tok_R (pXR_i h7)).1; omega)
                have O7 := O6.trans o7
                refine v_width (most := 64) H (by decide) (S7.n b7) (fun e σ' h f => ?_) (fun w σ8 h8 S8 o8 => ?_)
                · rw [xqi_e]; exact kf e σ' (u1.trans (eb_er h)) (FL.j O7 f)
                · rw [xqi_i]
                  rw [eb_ok h8] at u1
                  have w8 := pWd_i H (i := j + 9) b7 h8
                  have O8 := O7.trans o8
                  refine v_expect (k0 := 1) H (by decide) (S8.n (show j + 9 + 2 < N from w8.2.2.1)) (fun e σ' h f => ?_) (fun σ9 h9 S9 o9 => ?_)
                  · rw [xqv_e]; exact kf e σ' (u1.trans (eb_er h)) (FL.j O8 f)
                  · rw [xqv_v]
                    rw [eb_ok h9] at u1
                    refine p_array w5.2.1 ?_
                    rw [xqi_i]
                    exact ko _ _ σ9 u1 S9 (O8.trans o9)
    · refine v_failHere H S2 (fun σ' f => ?_)
      rw [xqi_e]
      rw [if_neg n4] at u1
      exact kf _ σ' (u1.trans (eb_er (if_neg n6))) (FL.j o1 (FL.j o2 f))
    · rw [if_pos y4] at u1
      have b2 := H.lt S2.2.2.2.2.2.2.2.1 (by have := (tok_R y4).1; omega)
      refine v_width (most := 64) H (by decide) (S2.n b2) (fun e σ' h f => ?_) (fun w σ3 h3 S3 o3 => ?_)
      · rw [xqi_e]
        exact kf e σ' (u1.trans (eb_er h)) (FL.j o1 (FL.j o2 f))
      · rw [xqi_i]
        rw [eb_ok h3] at u1
        exact ko _ _ σ3 u1 S3 (o1.trans (o2.trans o3))
  · refine v_failHere H S1 (fun σ' f => ?_)
    rw [xqi_e]
    refine kf _ σ' ?_ (FL.j o1 f)
    unfold pSo
    rw [if_neg n3]
    exact eb_er (if_neg n0)
  · refine ko 0 j σ1 ?_ S1 o1
    unfold pSo
    rw [if_pos y3]
theorem v_make {beg op so wt : Nat} {bits : BitVec 64} {a1 : Int32} (R : RC B σ) (g : gB B) (hx : 1 ≤ xb σ) (hs : okS so) (ho : op < 64) (hw : wt < 1073741824) (hb : a1 = nI beg) (kf : ∀ e σ', pMk B beg op so 0 bits [] wt = .error e → FL B e σ σ' → Q (.inr 0) σ') (ko : ∀ σ', bma B < 2000 → bwe B + wt ≤ 100000 → RC (addT (wtB B (bwe B + wt)) op so 0 bits []) σ' → oB σ σ' → Q (.inl (some (.int (nI (bma B))))) σ') : wp_Reader_make Q σ a1 (nI op) (nI so) (nI wt) (jL bits) := by
  have m1 := g.1.1.1
  have m2 := g.1.1.2.2.2.2.2.2
  unfold wp_Reader_make
  rw [R.1.1, R.1.2.1, show (2000 : Int32) = nI 2000 from rfl, show (100000 : Int32) = nI 100000 from rfl, nI_sub m2, nI_ltI (by omega) (by decide), nI_leI (by omega) (by omega)]
  refine ⟨fun z => ⟨fun y s1 e1 => ?_, fun y => ?_⟩, fun z => ?_⟩
  · rw [nI_add] at e1
    have R1 : RC (wtB B (bwe B + wt)) s1 := by
      obtain ⟨⟨r1, r2, r3, r4, r5⟩, r6, r7⟩ := R
      refine ⟨⟨?_, ?_, ?_, ?_, ?_⟩, fun k j hj => ?_, fun t ht => ?_⟩
      · rw [e1, xi_pi, if_neg (by decide), wB_m]; exact r1
      · rw [e1, xi_pi, if_pos ⟨rfl, rfl⟩, wB_w]
      · rw [e1, xi_pi, if_neg (by decide)]; exact r3
      · rw [e1, xi_pi, if_neg (by decide)]; exact r4
      · rw [e1, xi_pi, if_neg (by decide)]; exact r5
      · have q := bk_cs hj
        have ek : k ≠ 6 := by omega
        rw [e1, xi_pi, if_neg (fun z => ek z.1), wB_k (fun z => ek z.1)]
        refine r6 k j ?_
        unfold bkB at hj ⊢
        exact hj
      · rw [wB_m] at ht
        rw [e1, xl_pi, xl_pi]
        exact r7 t ht
    refine v_add (B := wtB B (bwe B + wt)) R1 (by rw [wB_m]; exact z) hs ho (fun σ' R' o' => ?_)
    rw [xqi_i, wB_m]
    exact ko σ' z (by omega) R' ((by rw [e1]; exact oB.pi _ _ _ _ (by decide) : oB σ s1).trans o')
  · refine v_fail (ek := 12) (ep := beg) R hx rfl hb (fun σ' f => ?_)
    rw [xqi_e]
    refine kf _ σ' ?_ f
    unfold pMk
    rw [if_neg (by omega), if_pos (by omega)]
  · refine v_fail (ek := 11) (ep := beg) R hx rfl hb (fun σ' f => ?_)
    rw [xqi_e]
    refine kf _ σ' ?_ f
    unfold pMk
    rw [if_pos (by omega)]
end CR2
