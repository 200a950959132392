/-- the Checker's cells alone have changed -/
def onlyC (σ σ' : xS) : Prop := (∀ a b, a ≠ 47 → xi σ' a b = xi σ a b) ∧ (∀ a b, a ≠ 45 → a ≠ 46 → xl σ' a b = xl σ a b) ∧ xb σ' = xb σ
theorem onlyC.refl (σ : xS) : onlyC σ σ := ⟨fun _ _ _ => rfl, fun _ _ _ _ => rfl, rfl⟩
theorem onlyC.trans {σ σ' σ2 : xS} (h : onlyC σ σ') (h2 : onlyC σ' σ2) : onlyC σ σ2 := ⟨fun a b q => (h2.1 a b q).trans (h.1 a b q), fun a b q1 q2 => (h2.2.1 a b q1 q2).trans (h.2.1 a b q1 q2), h2.2.2.trans h.2.2⟩
theorem onlyC.rc {B : Bk} {σ σ' : xS} (h : onlyC σ σ') (r : RC B σ) : RC B σ' := r.keep (fun a b _ _ => h.1 a b (by omega)) (fun a b h1 h2 => h.2.1 a b (by omega) (by omega))
theorem onlyK.toC {σ σ' : xS} (h : onlyK σ σ') : onlyC σ σ' := ⟨fun a b _ => h.1 a b, h.2.1, h.2.2⟩
theorem onlyI.toC {σ σ' : xS} (h : onlyI 47 σ σ') : onlyC σ σ' := ⟨h.1, fun a b _ _ => h.2.1 a b, h.2.2⟩
theorem mkd.cg {σ : xS} {c : Nat} {M M' : Nat → Bool} (h : mkd σ c M) (e : ∀ a, M a = M' a) : mkd σ c M' := fun a ha => by
  rw [← e a]
  exact h a ha
section FOL2
variable {B : Bk} {σ : xS} {Q : xO → xS → Prop} {t g mk hd : Nat}
theorem ar_ex {t a : Nat} {p : Nat → Prop} (hp : ∀ i, i < bfi B (t + 1) - bfi B t → p (bar B (bfi B t + i))) {i : Nat} (h1 : bfi B t ≤ i) (h2 : i < bfi B (t + 1)) : p (bar B i) := by
  have := hp (i - bfi B t) (by omega)
  rw [show bfi B t + (i - bfi B t) = i by omega] at this
  exact this
theorem arOk.at {v kn on kn' on' : Nat → BitVec 64} {a : Nat} (h : arOk B v kn on a) (h1 : kn' a = kn a) (h2 : on' a = on a) : arOk B v kn' on' a := by
  unfold arOk
  rw [h1, h2]
  exact h
theorem c_followsFalse {J0 : Nat} (h : RC B σ) (w : wfB B) (l : lwB B) (hg : g < bma B) (hb : bso B g = 0) (hS : bsz B ≤ 16) (h1 : mk < 65536) (hJ : J0 < 65536) (h0 : mkd σ 47 (fun _ => false))
    (k : ∀ σ' r, onlyC σ σ' → mkd σ' 47 (fun _ => false) → (r = true → ∀ J, J &&& mk = J0 &&& mk → ev B J g = 0#64) → (ev B J0 g = 0#64 → (∃ A, expl B J0 mk A g) → r = true) → Q (.inl (some (.int (bI r)))) σ') :
    wp_Checker_followsFalse Q σ (nI g) (nI mk) (nI (J0 &&& mk)) (nI (bsz B)) := by
  have hm := wf_ma w
  have hh : J0 &&& mk < 65536 := Nat.lt_of_le_of_lt Nat.and_le_right h1
  refine c_things h w hS h1 hh (nI g) (fun σ1 o1 t1 => ?_)
  refine m_cone_47 (o1.rc h) w l hg (fun a ha => (o1.1 47 a).trans (h0 a ha)) (fun σ2 M i2 m2 c2 => ?_)
  have o2 : onlyC σ σ2 := o1.toC.trans i2.toC
  have r2 := o2.rc h
  have lg := (l g hg).1
  rw [xqv_v]
  simp (disch := omega) only [i32_lit, l64_lit, lc_eq, lc_ge, lc_le, lc_gt, lc_lt, jL_inj, jL_add, jL_sub, jL_mul, jL_neg, jL_and, jL_or, jL_xor, jL_mone, BitVec.xor_allOnes, nI_clamp, nI_ltI, nI_leI, nI_eq, nI_1, nI_add, nI_sub, nI_addm, nI_mul, vp_in_n, xi_pi, xi_pl, xl_pi, xl_pl, xb_pi, xb_pl, xqi_i, xql_l, xqv_v, xqi_e, xql_e, xqv_e, forall_eq, true_and, and_true, rc_lw r2]
  have key := loop_i (σ := xS) (fun n i s => w_Checker_followsFalse_96 Q n (nI g) (nI i) s) (fun i s => blw B g ≤ i ∧ onlyC σ s ∧ mkd s 47 (fun a => M a && decide (i ≤ a)) ∧
      (∀ J, J &&& mk = J0 &&& mk → ∀ a, a < bma B → (bop B a = 47 ∨ (M a = true ∧ a < i)) → arOk B (ev B J) (K45 s) (K46 s) a) ∧
      (∀ A, expl B J0 mk A g → ∀ a, a < bma B → (bop B a = 47 ∨ (M a = true ∧ a < i)) → A a &&& K45 s a = A a)) (g + 1) (fun n s hI => ?_) (fun n i s hi hI hs => ?_)
  · refine ⟨_, key (g + 1 - blw B g + 1) (blw B g) σ2 (by omega) (by omega) ⟨Nat.le_refl _, o2, m2.cg (fun a => ?_), fun J hJ2 a ha hc => ?_, fun A hA a ha hc => ?_⟩⟩
    · cases e : M a with
      | false => simp
      | true => simp [(c2.2.2 a e).1]
    · rcases hc with hc | hc
      · obtain ⟨y1, y2⟩ := th_of w ha hc
        have e1 : K45 σ2 a = thM B mk (blo B a) := by
          have := (t1 (blo B a) y1).1
          rw [y2, ← i2.2.1] at this
          unfold K45; rw [this]; rfl
        have e2 : K46 σ2 a = (BitVec.ofNat 64 (J0 &&& mk) >>> (bsz B - bbe B (blo B a + 1))) &&& thM B mk (blo B a) := by
          have := (t1 (blo B a) y1).2
          rw [y2, ← i2.2.1] at this
          unfold K46; rw [this]; rfl
        have q1 := th_ag w y1 hJ2
        have q2 := thM_sub (B := B) mk (blo B a)
        rw [y2] at q1 q2
        unfold arOk
        rw [e1, e2]
        exact ⟨q1, q2, ev_sub w ha⟩
      · exact absurd hc.2 (by have := (c2.2.2 a hc.1).1; omega)
    · rcases hc with hc | hc
      · obtain ⟨y1, y2⟩ := th_of w ha hc
        have e1 : K45 σ2 a = thM B mk (blo B a) := by
          have := (t1 (blo B a) y1).1
          rw [y2, ← i2.2.1] at this
          unfold K45; rw [this]; rfl
        have := hA.2.1 (blo B a) y1
        rw [y2] at this
        rw [e1]; exact this
      · exact absurd hc.2 (by have := (c2.2.2 a hc.1).1; omega)
  · obtain ⟨p0, p1, p2, p3, p4⟩ := hI
    have r := p1.rc h
    unfold w_Checker_followsFalse_96
    have hd2 : bop B g = 47 ∨ (M g = true ∧ g < g + 1) := Or.inr ⟨c2.1, by omega⟩
    have q0 := p3 J0 rfl g hg hd2
    have p2' : mkd s 47 (fun _ => false) := p2.cg fun a => by
      cases e : M a with
      | false => simp
      | true =>
        have := (c2.2.2 a e).2
        simp
        omega
    have fg : bful B g = 1#64 := bful_0 hb
    have kg : K45 s g = 0#64 ∨ K45 s g = 1#64 := by
      have := q0.2.1
      rw [fg] at this
      have h3 : (K45 s g).toNat < 2 := by
        rw [← this, show (1#64) = bm 1 from rfl, and_bm _ (by decide)]
        exact Nat.mod_lt _ (by decide)
      have h4 : (K45 s g).toNat = 0 ∨ (K45 s g).toNat = 1 := by omega
      exact h4.imp (fun q => BitVec.eq_of_toNat_eq q) (fun q => BitVec.eq_of_toNat_eq q)
    have done := k s (decide (K45 s g ≠ 0#64 ∧ K46 s g = 0#64)) p1 p2' (fun hr J hJ2 => ?_) (fun he hx => ?_)
    · simp (disch := omega) only [i32_lit, l64_lit, lc_eq, lc_ge, lc_le, lc_gt, lc_lt, jL_inj, jL_add, jL_sub, jL_mul, jL_neg, jL_and, jL_or, jL_xor, jL_mone, BitVec.xor_allOnes, nI_clamp, nI_ltI, nI_leI, nI_eq, nI_1, nI_add, nI_sub, nI_addm, nI_mul, vp_in_n, xi_pi, xi_pl, xl_pi, xl_pl, xb_pi, xb_pl, xqi_i, xql_l, xqv_v, xqi_e, xql_e, xqv_e, forall_eq, true_and, and_true, K45_e, K46_e]
      refine ⟨fun _ => ⟨fun z => ?_, fun z => ⟨fun z2 => ?_, fun z2 => ?_⟩⟩, fun z => absurd z (by omega)⟩
      · rw [decide_eq_false (fun q => q.1 z)] at done; exact done
      · rw [decide_eq_false (fun q => z2 q.2)] at done; exact done
      · rw [decide_eq_true ⟨z, z2⟩] at done; exact done
    · obtain ⟨z1, z2⟩ := of_decide_eq_true hr
      have q := p3 J hJ2 g hg hd2
      have e1 := kg.resolve_left z1
      rw [← ag_all q.1 (e1.trans fg.symm) q.2.2]
      exact z2
    · obtain ⟨A, hA⟩ := hx
      have a1 := p4 A hA g hg hd2
      rw [hA.1] at a1
      have e1 : K45 s g = 1#64 := by
        rcases kg with q | q
        · rw [q] at a1; exact absurd a1 (by decide)
        · exact q
      refine decide_eq_true ⟨by rw [e1]; decide, ?_⟩
      rw [ag_all q0.1 (e1.trans fg.symm) q0.2.2]
      exact he
  · obtain ⟨p0, p1, p2, p3, p4⟩ := hI
    have r := p1.rc h
    have him : i < bma B := by omega
    obtain ⟨f1, f2, f3⟩ := wf_fi w him
    unfold w_Checker_followsFalse_96
    simp (disch := omega) only [i32_lit, l64_lit, lc_eq, lc_ge, lc_le, lc_gt, lc_lt, jL_inj, jL_add, jL_sub, jL_mul, jL_neg, jL_and, jL_or, jL_xor, jL_mone, BitVec.xor_allOnes, nI_clamp, nI_ltI, nI_leI, nI_eq, nI_1, nI_add, nI_sub, nI_addm, nI_mul, vp_in_n, xi_pi, xi_pl, xl_pi, xl_pl, xb_pi, xb_pl, xqi_i, xql_l, xqv_v, xqi_e, xql_e, xqv_e, forall_eq, true_and, and_true, mkd_0 p2, nar_0]
    refine ⟨fun z => absurd z (by omega), fun _ => ⟨fun z => ?_, fun z => ?_⟩⟩
    · have z : M i = false := by simpa using z
      refine hs s ⟨by omega, p1, p2.cg (fun a => ?_), fun J hJ2 a ha hc => p3 J hJ2 a ha ?_, fun A hA a ha hc => p4 A hA a ha ?_⟩
      · by_cases e : a = i
        · subst e; simp [z]
        · have : (i ≤ a) = (i + 1 ≤ a) := propext ⟨fun q => by omega, fun q => by omega⟩
          simp only [this]
      · refine hc.imp id (fun q => ⟨q.1, ?_⟩)
        by_cases e : a = i
        · subst e; rw [z] at q; exact absurd q.1 (by decide)
        · omega
      · refine hc.imp id (fun q => ⟨q.1, ?_⟩)
        by_cases e : a = i
        · subst e; rw [z] at q; exact absurd q.1 (by decide)
        · omega
    · have z : M i = true := by
        cases e : M i with
        | true => rfl
        | false => rw [e] at z; simp at z
      have p1' : onlyC σ (xpi s 47 i (nI 0)) := p1.trans (onlyI.pi 47 s i (nI 0)).toC
      have r' := p1'.rc h
      have m' : mkd (xpi s 47 i (nI 0)) 47 (fun a => M a && decide (i + 1 ≤ a)) := fun a ha => by
        rw [xi_pi]
        by_cases e : a = i
        · rw [if_pos ⟨rfl, e⟩, e]
          show nI 0 = nI (if (M i && decide (i + 1 ≤ i)) = true then 1 else 0)
          rw [decide_eq_false (by omega), Bool.and_false]
          rfl
        · rw [if_neg (fun q => e q.2), p2 a ha]
          have : (i ≤ a) = (i + 1 ≤ a) := propext ⟨fun q => by omega, fun q => by omega⟩
          simp only [this]
      simp only [rc_fi r (show i ≤ bma B by omega)]
      by_cases h7 : bop B i = 47
      · refine c_workOut47 r' w him h7 ?_
        rw [xqv_v]
        refine hs _ ⟨by omega, p1', m', fun J hJ2 a ha hc => p3 J hJ2 a ha ?_, fun A hA a ha hc => p4 A hA a ha ?_⟩
        · rcases hc with q | q
          · exact Or.inl q
          · by_cases e : a = i
            · subst e; exact Or.inl h7
            · exact Or.inr ⟨q.1, by omega⟩
        · rcases hc with q | q
          · exact Or.inl q
          · by_cases e : a = i
            · subst e; exact Or.inl h7
            · exact Or.inr ⟨q.1, by omega⟩
      · have sons : ∀ j, bfi B i ≤ j → j < bfi B (i + 1) → bar B j < i ∧ (bop B (bar B j) = 47 ∨ (M (bar B j) = true ∧ bar B j < i)) := fun j j1 j2 => by
          have := wf_ar w him j1 j2
          refine ⟨this, ?_⟩
          by_cases e : bop B (bar B j) = 47
          · exact Or.inl e
          · exact Or.inr ⟨c2.2.1 i _ z ⟨e, j, j1, j2, rfl⟩, this⟩
        have ars : ∀ J, J &&& mk = J0 &&& mk → ∀ j, j < bfi B (i + 1) - bfi B i → arOk B (ev B J) (K45 s) (K46 s) (bar B (bfi B i + j)) := fun J hJ2 j hj => by
          have q := sons (bfi B i + j) (by omega) (by omega)
          exact p3 J hJ2 _ (by omega) q.2
        have arL : ∀ J, J &&& mk = J0 &&& mk → ∀ j, j < bfi B (i + 1) - bfi B i → arOk B (evL B J i) (K45 s) (K46 s) (bar B (bfi B i + j)) := fun J hJ2 j hj => by
          have q := ars J hJ2 j hj
          unfold arOk at q ⊢
          rw [evL_lt B J (sons (bfi B i + j) (by omega) (by omega)).1]
          exact q
        have tok : ∀ J, J &&& mk = J0 &&& mk → tOk B (ev B J i) i (chk B (K45 s) (K46 s) i) := fun J hJ2 => by
          rw [ev_eq]
          exact chk_ok w him h7 (arL J hJ2)
        refine c_workOut (kn := K45 s) (on := K46 s) r' w him hS (fun _ _ _ => rfl) (fun _ _ _ => rfl) h7 (fun n2 hk => ?_) (fun σ' L => ?_)
        · have q := ars J0 rfl 1 (by omega)
          rw [ag_all q.1 hk q.2.2]
          exact ev_lt w (by have := (sons (bfi B i + 1) (by omega) (by omega)).1; omega)
        · rw [xqv_v]
          have ne : ∀ a, a ≠ i → K45 σ' a = K45 s a ∧ K46 σ' a = K46 s a := fun a ha => by
            unfold K45 K46
            rw [L.2.1 45 a (Or.inr ha), L.2.1 46 a (Or.inr ha)]
            exact ⟨rfl, rfl⟩
          have eqi : K45 σ' i = (chk B (K45 s) (K46 s) i).1 ∧ K46 σ' i = (chk B (K45 s) (K46 s) i).2 &&& (chk B (K45 s) (K46 s) i).1 := by
            unfold K45 K46
            rw [L.2.2.2.1, L.2.2.2.2]
            exact ⟨rfl, rfl⟩
          refine hs σ' ⟨by omega, p1'.trans L.only.toC, fun a ha => (L.1 47 a).trans (m' a ha), fun J hJ2 a ha hc => ?_, fun A hA a ha hc => ?_⟩
          · by_cases e : a = i
            · subst e
              unfold arOk
              rw [eqi.1, eqi.2]
              exact ⟨(tok J hJ2).1, (tok J hJ2).2, ev_sub w ha⟩
            · exact (p3 J hJ2 a ha (hc.imp id (fun q => ⟨q.1, by omega⟩))).at (ne a e).1 (ne a e).2
          · by_cases e : a = i
            · subst e
              rw [eqi.1]
              refine hA.2.2 a (by omega) h7 (K45 s) (K46 s) (fun j hj => ⟨ars J0 rfl j hj, ?_⟩)
              have q := sons (bfi B a + j) (by omega) (by omega)
              exact p4 A hA _ (by omega) q.2
            · rw [(ne a e).1]
              exact p4 A hA a ha (hc.imp id (fun q => ⟨q.1, by omega⟩))
end FOL2
