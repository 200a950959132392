/-- only the Learner's own cells have changed -/
def onlyE (σ σ' : xS) : Prop := (∀ a b, a ≠ 42 → xi σ' a b = xi σ a b) ∧ (∀ a b, a ≠ 43 → xl σ' a b = xl σ a b) ∧ xb σ' = xb σ
theorem onlyE.refl (σ : xS) : onlyE σ σ := ⟨fun _ _ _ => rfl, fun _ _ _ => rfl, rfl⟩
theorem onlyE.trans {σ σ' σ2 : xS} (h : onlyE σ σ') (h2 : onlyE σ' σ2) : onlyE σ σ2 := ⟨fun a b q => (h2.1 a b q).trans (h.1 a b q), fun a b q => (h2.2.1 a b q).trans (h.2.1 a b q), h2.2.2.trans h.2.2⟩
theorem onlyE.rc {B : Bk} {σ σ' : xS} (h : onlyE σ σ') (r : RC B σ) : RC B σ' := r.keep (fun a b _ _ => h.1 a b (by omega)) (fun a b h1 h2 => h.2.1 a b (by omega))
theorem onlyA.toE {σ σ' : xS} (h : onlyA σ σ') : onlyE σ σ' := ⟨fun a b q => h.1 a b (fun z => q z.1), h.2.1, h.2.2⟩
section LRN8
variable {B : Bk} {σ : xS} {Q : xO → xS → Prop} {t g mk li J : Nat} {A : Nat → BitVec 64} {M : Nat → Bool}
theorem stOK.mono {A A' : Nat → BitVec 64} (h : stOK B J A t) (e : A' t = A t) (m : ∀ a, sbs (A a) (A' a)) : stOK B J A' t := by
  intro kn on hA
  rw [e]
  exact h kn on (fun i hi => ⟨(hA i hi).1, (m _).trans (hA i hi).2⟩)
theorem l_explain (h : RC B σ) (w : wfB B) (l : lwB B) (hS : bsz B ≤ 16) (hg : g < bma B) (hb : bso B g = 0) (c : isCone B g M) (hW : ∀ a, a < bma B → (M a = true ∨ bop B a = 47) → xl σ 41 a = jL (ev B J a)) (hz : ∀ a, a < 2000 → xl σ 43 a = jL 0#64)
    (k : ∀ σ' mk, onlyE σ σ' → (∀ a, a < 2000 → xl σ' 43 a = jL 0#64) → mk < 2 ^ bsz B → (∃ A, expl B J mk A g) → Q (.inl (some (.int (nI mk)))) σ') : wp_Learner_explain Q σ (nI g) (nI (bsz B)) := by
  have hm := wf_ma w
  have lg := (l g hg).1
  intro s1 e1 s2 e2
  have o2 : onlyE σ s2 := by
    rw [e2, e1]
    exact ⟨fun a b q => by rw [xi_pi, if_neg (fun z => q z.1), xi_pi, if_neg (fun z => q z.1)], fun _ _ _ => rfl, rfl⟩
  have L0 : lnS B (g + 1) s2 (fun _ => 0#64) 0 := by
    refine ⟨o2.rc h, ?_, ?_, Nat.two_pow_pos _, fun i hi => sbs.zero _, fun a ha => ?_, fun a ha => sbs.zero _⟩
    · rw [e2, e1, xi_pi, if_neg (by decide), xi_pi, if_pos ⟨rfl, rfl⟩]
    · rw [e2, xi_pi, if_pos ⟨rfl, rfl⟩]; rfl
    · have : xl s2 43 a = xl σ 43 a := by rw [e2, e1]; rfl
      rw [this, hz a ha]
      unfold aV
      split <;> rfl
  rw [show (1 : Int64) = jL 1#64 from rfl]
  refine l_ask0 L0 w hS hg (by omega) (by rw [bful_0 hb]; exact sbs.refl _) (fun σ3 mk3 o3 L3 => ?_)
  rw [xqv_v]
  have g1 : upA (fun _ => 0#64) g 1#64 g = 1#64 := by rw [upA_e _ _ rfl]; decide
  have key := loop_m (σ := Nat × xS) (fun n s => w_Learner_explain_18 Q n (nI g) (nI s.1 + -nI 1) s.2) (fun s => blw B g ≤ s.1 ∧ s.1 ≤ g + 1 ∧ onlyE σ s.2 ∧ ∃ A mk, lnS B s.1 s.2 A mk ∧ A g = 1#64 ∧ (∀ t, s.1 ≤ t → t ≤ g → bop B t ≠ 47 → stOK B J A t) ∧ ∀ a, A a ≠ 0#64 → M a = true ∨ bop B a = 47) (fun s => s.1) (fun n s hI hs => ?_) (g + 1, σ3) ⟨by omega, Nat.le_refl _, o2.trans o3.toE, _, mk3, L3, g1, fun t h1 h2 _ => ?_, fun a ha => ?_⟩
  · obtain ⟨n, hn⟩ := key
    refine ⟨n, ?_⟩
    have hn : w_Learner_explain_18 Q n (nI g) (nI (g + 1) + -nI 1) σ3 := hn
    rw [show nI (g + 1) + -nI 1 = nI g by rw [nI_addm (by omega)]; rfl] at hn
    exact hn
  · obtain ⟨h0, h0', h1, A, mk, L, h3, h4, h5⟩ := hI
    show w_Learner_explain_18 Q (n + 1) (nI g) (nI s.1 + -nI 1) s.2
    unfold w_Learner_explain_18
    simp (disch := omega) only [i32_lit, l64_lit, lc_eq, lc_ge, lc_le, lc_gt, lc_lt, jL_inj, jL_add, jL_sub, jL_mul, jL_neg, jL_and, jL_or, jL_xor, jL_mone, BitVec.xor_allOnes, nI_clamp, nI_ltI, nI_leI, nI_eq, nI_1, nI_add, nI_sub, nI_addm, nI_mul, vp_in_n, xi_pi, xi_pl, xl_pi, xl_pl, xb_pi, xb_pl, xqi_i, xql_l, xqv_v, xqi_e, xql_e, xqv_e, forall_eq, true_and, and_true, rc_lw L.1, nI_m1lt, L.2.2.1]
    refine ⟨fun q => ?_, fun q => ?_⟩
    · have low : ∀ a, a < s.1 → bop B a ≠ 47 → A a = 0#64 := fun a ha h7 => by
        apply Classical.byContradiction
        intro n0
        rcases h5 a n0 with q1 | q1
        · have := (c.2.2 a q1).1; omega
        · exact h7 q1
      refine k s.2 mk h1 (fun a ha => ?_) L.2.2.2.1 ⟨A, h3, L.2.2.2.2.1, fun t t1 t2 => ?_⟩
      · rw [L.2.2.2.2.2.1 a ha]
        unfold aV
        by_cases e : a < s.1 ∧ a < bma B ∧ bop B a ≠ 47 ∧ bop B a ≠ 48
        · rw [if_pos e, low a e.1 e.2.2.1]
        · rw [if_neg e]
      · by_cases e : s.1 ≤ t
        · exact h4 t e t1 t2
        · exact st_zero (low t (by omega) t2)
    · have es : nI s.1 + -nI 1 = nI (s.1 - 1) := nI_addm (by omega)
      have lt : s.1 - 1 < bma B := by omega
      obtain ⟨f1, f2, f3⟩ := wf_fi w lt
      rw [es]
      simp (disch := omega) only [i32_lit, l64_lit, lc_eq, lc_ge, lc_le, lc_gt, lc_lt, jL_inj, jL_add, jL_sub, jL_mul, jL_neg, jL_and, jL_or, jL_xor, jL_mone, BitVec.xor_allOnes, nI_clamp, nI_ltI, nI_leI, nI_eq, nI_1, nI_add, nI_sub, nI_addm, nI_mul, vp_in_n, xi_pi, xi_pl, xl_pi, xl_pl, xb_pi, xb_pl, xqi_i, xql_l, xqv_v, xqi_e, xql_e, xqv_e, forall_eq, true_and, and_true, L.2.2.2.2.2.1 (s.1 - 1) (by omega)]
      have aVn : ∀ a, a ≠ s.1 - 1 → aV B (s.1 - 1) A a = aV B s.1 A a := fun a ha => by
        unfold aV
        have : (a < s.1 - 1) = (a < s.1) := propext ⟨fun q => by omega, fun q => by omega⟩
        simp only [this]
      have aV0 : aV B (s.1 - 1) A (s.1 - 1) = 0#64 := if_neg (fun q => by omega)
      refine ⟨fun e => ?_, fun e => ?_⟩
      · have := hs (s.1 - 1, s.2) ⟨by show blw B g ≤ s.1 - 1; omega, by show s.1 - 1 ≤ g + 1; omega, h1, A, mk, ⟨L.1, L.2.1, L.2.2.1, L.2.2.2.1, L.2.2.2.2.1, fun a ha => ?_, L.2.2.2.2.2.2⟩, h3, fun t t1 t2 t3 => ?_, h5⟩ (by show s.1 - 1 < s.1; omega)
        · exact this
        · show xl s.2 43 a = jL (aV B (s.1 - 1) A a)
          by_cases d : a = s.1 - 1
          · rw [d, aV0, L.2.2.2.2.2.1 _ (by omega), e]
          · rw [aVn a d]; exact L.2.2.2.2.2.1 a ha
        · have t1 : s.1 - 1 ≤ t := t1
          by_cases d : t = s.1 - 1
          · by_cases h8 : bop B t = 48
            · exact st_const w (by omega) (L.2.2.2.2.2.2 t (by omega)) h8
            · refine st_zero ?_
              unfold aV at e
              rw [← d, if_pos ⟨by omega, by omega, t3, h8⟩] at e
              exact e
          · exact h4 t (by omega) t2 t3
      · have cond : s.1 - 1 < s.1 ∧ s.1 - 1 < bma B ∧ bop B (s.1 - 1) ≠ 47 ∧ bop B (s.1 - 1) ≠ 48 := by
          apply Classical.byContradiction
          intro n0
          unfold aV at e
          rw [if_neg n0] at e
          exact e rfl
        have eA : aV B s.1 A (s.1 - 1) = A (s.1 - 1) := if_pos cond
        rw [eA] at e ⊢
        have Mt : M (s.1 - 1) = true := (h5 _ e).resolve_right cond.2.2.1
        have n1 := typ_n1 (wf_ty w lt) cond.2.2.1 cond.2.2.2
        have oz : onlyA s.2 (xpl s.2 43 (s.1 - 1) (jL 0#64)) := ⟨fun _ _ _ => rfl, fun a b q => by rw [xl_pl, if_neg (fun z => q z.1)], rfl⟩
        have Lz : lnS B (s.1 - 1) (xpl s.2 43 (s.1 - 1) (jL 0#64)) A mk := by
          refine ⟨oz.rc L.1, L.2.1, L.2.2.1, L.2.2.2.1, L.2.2.2.2.1, fun a ha => ?_, L.2.2.2.2.2.2⟩
          rw [xl_pl]
          by_cases d : a = s.1 - 1
          · rw [if_pos ⟨rfl, d⟩, d, aV0]
          · rw [if_neg (fun z => d z.2), aVn a d]; exact L.2.2.2.2.2.1 a ha
        have Wz : wrt B J (xpl s.2 43 (s.1 - 1) (jL 0#64)) (s.1 - 1) := by
          have oz2 := h1.trans oz.toE
          refine ⟨(oz2.2.1 41 _ (by decide)).trans (hW _ lt (Or.inl Mt)), fun i i1 i2 => (oz2.2.1 41 _ (by decide)).trans (hW _ (by have := wf_ar w lt i1 i2; omega) ?_)⟩
          by_cases d : bop B (bar B i) = 47
          · exact Or.inr d
          · exact Or.inl (c.2.1 _ _ Mt ⟨d, i, i1, i2, rfl⟩)
        simp (disch := omega) only [i32_lit, l64_lit, lc_eq, lc_ge, lc_le, lc_gt, lc_lt, jL_inj, jL_add, jL_sub, jL_mul, jL_neg, jL_and, jL_or, jL_xor, jL_mone, BitVec.xor_allOnes, nI_clamp, nI_ltI, nI_leI, nI_eq, nI_1, nI_add, nI_sub, nI_addm, nI_mul, vp_in_n, xi_pi, xi_pl, xl_pi, xl_pl, xb_pi, xb_pl, xqi_i, xql_l, xqv_v, xqi_e, xql_e, xqv_e, forall_eq, true_and, and_true, rc_fi L.1, rc_ar L.1]
        refine l_term Lz w hS lt (Nat.le_refl _) Wz cond.2.2.1 cond.2.2.2 (fun σ' A' mk' o' L' g' s' => ?_)
        rw [xqv_v]
        refine hs (s.1 - 1, σ') ⟨by show blw B g ≤ s.1 - 1; omega, by show s.1 - 1 ≤ g + 1; omega, (h1.trans oz.toE).trans o'.toE, A', mk', L', ?_, fun t t1 t2 t3 => ?_, fun a ha => ?_⟩ (by show s.1 - 1 < s.1; omega)
        · rw [g'.2 g (fun i i1 i2 e => by have := wf_ar w lt i1 i2; omega)]; exact h3
        · have t1 : s.1 - 1 ≤ t := t1
          by_cases d : t = s.1 - 1
          · rw [d]; exact s'
          · exact (h4 t (by omega) t2 t3).mono (g'.2 t (fun i i1 i2 e => by have := wf_ar w lt i1 i2; omega)) g'.1
        · by_cases d : ∃ i, bfi B (s.1 - 1) ≤ i ∧ i < bfi B (s.1 - 1 + 1) ∧ bar B i = a
          · obtain ⟨i, i1, i2, i3⟩ := d
            by_cases d2 : bop B a = 47
            · exact Or.inr d2
            · exact Or.inl (c.2.1 _ _ Mt ⟨d2, i, i1, i2, i3⟩)
          · rw [g'.2 a (fun i i1 i2 e => d ⟨i, i1, i2, e⟩)] at ha
            exact h5 a ha
  · have h1 : g + 1 ≤ t := h1
    omega
  · by_cases e : a = g
    · rw [e]; exact Or.inl c.1
    · rw [upA_n _ _ e] at ha
      exact absurd rfl ha
end LRN8
