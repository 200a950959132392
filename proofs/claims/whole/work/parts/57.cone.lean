/-! CONES: a term and all that it is made of, things aside -/
def onlyI (c : Nat) (σ σ' : xS) : Prop := (∀ a b, a ≠ c → xi σ' a b = xi σ a b) ∧ (∀ a b, xl σ' a b = xl σ a b) ∧ xb σ' = xb σ
theorem onlyI.refl (c : Nat) (σ : xS) : onlyI c σ σ := ⟨fun _ _ _ => rfl, fun _ _ => rfl, rfl⟩
theorem onlyI.trans {c : Nat} {σ σ' σ2 : xS} (h : onlyI c σ σ') (h2 : onlyI c σ' σ2) : onlyI c σ σ2 := ⟨fun a b q => (h2.1 a b q).trans (h.1 a b q), fun a b => (h2.2.1 a b).trans (h.2.1 a b), h2.2.2.trans h.2.2⟩
theorem onlyI.pi (c : Nat) (σ : xS) (j : Nat) (x : Int32) : onlyI c σ (xpi σ c j x) := ⟨fun a b q => by rw [xi_pi, if_neg (fun z => q z.1)], fun _ _ => rfl, rfl⟩
theorem onlyI.rc {B : Bk} {σ σ' : xS} {c : Nat} (h : onlyI c σ σ') (hc : 23 ≤ c) (r : RC B σ) : RC B σ' := r.keep (fun a b _ _ => h.1 a b (by omega)) (fun a b h1 h2 => h.2.1 a b)
def mkd (σ : xS) (c : Nat) (M : Nat → Bool) : Prop := ∀ t, t < 2000 → xi σ c t = nI (if M t then 1 else 0)
/-- the lowest numbers are right -/
def lwB (B : Bk) : Prop := ∀ t, t < bma B → blw B t ≤ t ∧ ∀ i, bfi B t ≤ i → i < bfi B (t + 1) → bop B (bar B i) ≠ 47 → blw B t ≤ blw B (bar B i)
theorem nar_1 : vp_nar .byte (nI 1) = nI 1 := by decide
theorem nar_0 : vp_nar .byte (nI 0) = nI 0 := by decide
theorem mkd_0 {σ : xS} {c t : Nat} {M : Nat → Bool} (h : mkd σ c M) (ht : t < 2000) : (xi σ c t = nI 0) = (M t = false) := by
  rw [h t ht]
  cases M t
  · simp
  · simp
    decide
theorem nI_m1lt {s b : Nat} (hs : s < 2147483648) (hb : b < 2147483648) : (nI s + -nI 1 < nI b) = (s ≤ b) := by
  by_cases e : s = 0
  · subst e
    have : nI 0 + -nI 1 < nI b := by
      rw [Int32.lt_iff_toInt_lt, nI_toInt hb]
      have : (nI 0 + -nI 1).toInt = -1 := by decide
      omega
    simp [this]
  · rw [nI_addm (by omega), nI_ltI (by omega) (by omega)]
    simp
    omega
section CONE
variable {B : Bk} {σ : xS} {Q : xO → xS → Prop} {t g : Nat} {M : Nat → Bool}
/-- arguments of t, things aside -/
def sonOf (B : Bk) (t a : Nat) : Prop := bop B a ≠ 47 ∧ ∃ i, bfi B t ≤ i ∧ i < bfi B (t + 1) ∧ bar B i = a
def isCone (B : Bk) (g : Nat) (M : Nat → Bool) : Prop := M g = true ∧ (∀ t a, M t = true → sonOf B t a → M a = true) ∧ ∀ t, M t = true → blw B g ≤ t ∧ t ≤ g
theorem m_args_47 (h : RC B σ) (w : wfB B) (ht : t < bma B) (hM : mkd σ 47 M)
    (k : ∀ σ' M', onlyI 47 σ σ' → mkd σ' 47 M' → (∀ a, M' a = true ↔ M a = true ∨ sonOf B t a) → Q (.inl none) σ') : wp_Terms_markArguments_6_47 Q σ (nI t) := by
  have hm := wf_ma w
  obtain ⟨f1, f2, f3⟩ := wf_fi w ht
  unfold wp_Terms_markArguments_6_47
  simp (disch := omega) only [i32_lit, l64_lit, lc_eq, lc_ge, lc_le, lc_gt, lc_lt, jL_inj, jL_add, jL_sub, jL_mul, jL_neg, jL_and, jL_or, jL_xor, jL_mone, BitVec.xor_allOnes, nI_clamp, nI_ltI, nI_leI, nI_eq, nI_1, nI_add, nI_sub, nI_addm, nI_mul, vp_in_n, xi_pi, xi_pl, xl_pi, xl_pl, xb_pi, xb_pl, xqi_i, xql_l, xqv_v, xqi_e, xql_e, xqv_e, forall_eq, true_and, and_true, rc_fi h]
  have key := loop_i (σ := xS) (fun n i s => w_Terms_markArguments_6_47_7 Q n (nI t) (nI i) s) (fun i s => bfi B t ≤ i ∧ onlyI 47 σ s ∧ ∃ M', mkd s 47 M' ∧ ∀ a, M' a = true ↔ M a = true ∨ (bop B a ≠ 47 ∧ ∃ j, bfi B t ≤ j ∧ j < i ∧ bar B j = a)) (bfi B (t + 1)) (fun n s hI => ?_) (fun n i s hi hI hs => ?_)
  · exact ⟨_, key (bfi B (t + 1) - bfi B t + 1) (bfi B t) σ (by omega) (by omega) ⟨Nat.le_refl _, onlyI.refl _ _, M, hM, fun a => ⟨Or.inl, fun z => z.elim id (fun ⟨_, j, h1, h2, _⟩ => absurd h1 (by omega))⟩⟩⟩
  · unfold w_Terms_markArguments_6_47_7
    obtain ⟨h0, h1, M', h2, h3⟩ := hI
    have r := h1.rc (by decide) h
    simp (disch := omega) only [i32_lit, l64_lit, lc_eq, lc_ge, lc_le, lc_gt, lc_lt, jL_inj, jL_add, jL_sub, jL_mul, jL_neg, jL_and, jL_or, jL_xor, jL_mone, BitVec.xor_allOnes, nI_clamp, nI_ltI, nI_leI, nI_eq, nI_1, nI_add, nI_sub, nI_addm, nI_mul, vp_in_n, xi_pi, xi_pl, xl_pi, xl_pl, xb_pi, xb_pl, xqi_i, xql_l, xqv_v, xqi_e, xql_e, xqv_e, forall_eq, true_and, and_true, rc_fi r]
    exact ⟨fun _ => k s M' h1 h2 h3, fun z => absurd (Nat.le_refl _) z⟩
  · unfold w_Terms_markArguments_6_47_7
    obtain ⟨h0, h1, M', h2, h3⟩ := hI
    have r := h1.rc (by decide) h
    have ha := wf_ar w ht h0 hi
    have hb : bop B (bar B i) ≤ 48 := (typ_op (wf_ty w (show bar B i < bma B by omega))).2
    simp (disch := omega) only [i32_lit, l64_lit, lc_eq, lc_ge, lc_le, lc_gt, lc_lt, jL_inj, jL_add, jL_sub, jL_mul, jL_neg, jL_and, jL_or, jL_xor, jL_mone, BitVec.xor_allOnes, nI_clamp, nI_ltI, nI_leI, nI_eq, nI_1, nI_add, nI_sub, nI_addm, nI_mul, vp_in_n, xi_pi, xi_pl, xl_pi, xl_pl, xb_pi, xb_pl, xqi_i, xql_l, xqv_v, xqi_e, xql_e, xqv_e, forall_eq, true_and, and_true, rc_fi r, rc_ar r, rc_op r, nar_1]
    refine ⟨fun z => absurd z (by omega), fun _ => ⟨fun z => ?_, fun z => ?_⟩⟩
    · refine hs s ⟨by omega, h1, M', h2, fun a => (h3 a).trans ⟨fun q => q.imp id (fun ⟨q1, j, q2, q3, q4⟩ => ⟨q1, j, q2, by omega, q4⟩), fun q => q.imp id (fun ⟨q1, j, q2, q3, q4⟩ => ⟨q1, j, q2, ?_, q4⟩)⟩⟩
      by_cases e : j = i
      · subst e; rw [q4] at z; exact absurd z q1
      · omega
    · refine hs _ ⟨by omega, h1.trans (onlyI.pi _ _ _ _), fun a => if a = bar B i then true else M' a, fun a ha2 => ?_, fun a => ?_⟩
      · rw [xi_pi]
        show _ = nI (if (if a = bar B i then true else M' a) = true then 1 else 0)
        by_cases e : a = bar B i
        · rw [if_pos ⟨rfl, e⟩, if_pos e]; rfl
        · rw [if_neg (fun q => e q.2), if_neg e]; exact h2 a ha2
      · show (if a = bar B i then true else M' a) = true ↔ _
        by_cases e : a = bar B i
        · rw [if_pos e]
          refine ⟨fun _ => Or.inr ⟨by rw [e]; exact z, i, h0, by omega, e.symm⟩, fun _ => rfl⟩
        · rw [if_neg e, h3 a]
          refine ⟨fun q => q.imp id (fun ⟨q1, j, q2, q3, q4⟩ => ⟨q1, j, q2, by omega, q4⟩), fun q => q.imp id (fun ⟨q1, j, q2, q3, q4⟩ => ⟨q1, j, q2, ?_, q4⟩)⟩
          by_cases e2 : j = i
          · subst e2; exact absurd q4.symm e
          · omega
theorem m_cone_47 (h : RC B σ) (w : wfB B) (l : lwB B) (hg : g < bma B) (hM : mkd σ 47 (fun _ => false))
    (k : ∀ σ' M, onlyI 47 σ σ' → mkd σ' 47 M → isCone B g M → Q (.inl none) σ') : wp_Terms_markCone_6_47 Q σ (nI g) := by
  have hm := wf_ma w
  unfold wp_Terms_markCone_6_47
  simp (disch := omega) only [i32_lit, l64_lit, lc_eq, lc_ge, lc_le, lc_gt, lc_lt, jL_inj, jL_add, jL_sub, jL_mul, jL_neg, jL_and, jL_or, jL_xor, jL_mone, BitVec.xor_allOnes, nI_clamp, nI_ltI, nI_leI, nI_eq, nI_1, nI_add, nI_sub, nI_addm, nI_mul, vp_in_n, xi_pi, xi_pl, xl_pi, xl_pl, xb_pi, xb_pl, xqi_i, xql_l, xqv_v, xqi_e, xql_e, xqv_e, forall_eq, true_and, and_true, nar_1]
  have lg := (l g hg).1
  have key := loop_m (σ := Nat × xS) (fun n s => w_Terms_markCone_6_47_6 Q n (nI g) (nI s.1 + -nI 1) s.2) (fun s => blw B g ≤ s.1 ∧ s.1 ≤ g + 1 ∧ onlyI 47 σ s.2 ∧ ∃ M, mkd s.2 47 M ∧ M g = true ∧ (∀ t a, s.1 ≤ t → M t = true → sonOf B t a → M a = true) ∧ ∀ t, M t = true → blw B g ≤ blw B t ∧ blw B g ≤ t ∧ t ≤ g) (fun s => s.1) (fun n s hI hs => ?_) (g + 1, xpi σ 47 g (nI 1)) ⟨by omega, by omega, onlyI.pi _ _ _ _, fun a => decide (a = g), fun a ha => ?_, by simp, fun t a h1 h2 _ => ?_, fun t h2 => ?_⟩
  · obtain ⟨n, hn⟩ := key
    refine ⟨n, ?_⟩
    have e : nI (g + 1) + -nI 1 = nI g := by rw [nI_addm (by omega)]; rfl
    have hn : w_Terms_markCone_6_47_6 Q n (nI g) (nI (g + 1) + -nI 1) (xpi σ 47 g (nI 1)) := hn
    rw [e] at hn
    exact hn
  · obtain ⟨h0, h0', h1, M, h2, h3, h4, h5⟩ := hI
    have r := h1.rc (by decide) h
    show w_Terms_markCone_6_47_6 Q (n + 1) (nI g) (nI s.1 + -nI 1) s.2
    unfold w_Terms_markCone_6_47_6
    simp (disch := omega) only [i32_lit, l64_lit, lc_eq, lc_ge, lc_le, lc_gt, lc_lt, jL_inj, jL_add, jL_sub, jL_mul, jL_neg, jL_and, jL_or, jL_xor, jL_mone, BitVec.xor_allOnes, nI_clamp, nI_ltI, nI_leI, nI_eq, nI_1, nI_add, nI_sub, nI_addm, nI_mul, vp_in_n, xi_pi, xi_pl, xl_pi, xl_pl, xb_pi, xb_pl, xqi_i, xql_l, xqv_v, xqi_e, xql_e, xqv_e, forall_eq, true_and, and_true, rc_lw r, nI_m1lt]
    refine ⟨fun z => k s.2 M h1 h2 ⟨h3, fun t a h6 => h4 t a (by have := (h5 t h6).2.1; omega) h6, fun t h6 => (h5 t h6).2⟩, fun z => ?_⟩
    have e1 : nI s.1 + -nI 1 = nI (s.1 - 1) := nI_addm (by omega)
    have lt : s.1 - 1 < bma B := by omega
    rw [e1]
    simp (disch := omega) only [i32_lit, l64_lit, lc_eq, lc_ge, lc_le, lc_gt, lc_lt, jL_inj, jL_add, jL_sub, jL_mul, jL_neg, jL_and, jL_or, jL_xor, jL_mone, BitVec.xor_allOnes, nI_clamp, nI_ltI, nI_leI, nI_eq, nI_1, nI_add, nI_sub, nI_addm, nI_mul, vp_in_n, xi_pi, xi_pl, xl_pi, xl_pl, xb_pi, xb_pl, xqi_i, xql_l, xqv_v, xqi_e, xql_e, xqv_e, forall_eq, true_and, and_true, mkd_0 h2]
    refine ⟨fun z2 => ?_, fun z2 => ?_⟩
    · have := hs (s.1 - 1, s.2) ⟨by omega, by omega, h1, M, h2, h3, fun t a h6 h7 => ?_, h5⟩ (by omega)
      · have e2 : nI (s.1 - 1) + -nI 1 = nI (s.1 - 1) - nI 1 := by rw [Int32.sub_eq_add_neg]
        exact this
      · by_cases e : t = s.1 - 1
        · rw [e, z2] at h7; cases h7
        · exact h4 t a (by have h6 : s.1 - 1 ≤ t := h6; omega) h7
    · refine m_args_47 r w lt h2 (fun σ' M' a1 a2 a3 => ?_)
      have z3 : M (s.1 - 1) = true := by revert z2; cases M (s.1 - 1) <;> simp
      rw [xqv_v]
      have := hs (s.1 - 1, σ') ⟨by omega, by omega, h1.trans a1, M', a2, (a3 g).mpr (Or.inl h3), fun t a h6 h7 h8 => ?_, fun t h6 => ?_⟩ (by omega)
      · exact this
      · rcases (a3 t).mp h7 with q | q
        · by_cases e : t = s.1 - 1
          · rw [e] at h8; exact (a3 a).mpr (Or.inr h8)
          · exact (a3 a).mpr (Or.inl (h4 t a (by have h6 : s.1 - 1 ≤ t := h6; omega) q h8))
        · obtain ⟨q1, i, q2, q3, q4⟩ := q
          have := wf_ar w lt q2 q3
          have h6 : s.1 - 1 ≤ t := h6
          omega
      · rcases (a3 t).mp h6 with q | ⟨q1, i, q2, q3, q4⟩
        · exact h5 t q
        · have b1 := wf_ar w lt q2 q3
          have b2 := (l (s.1 - 1) lt).2 i q2 q3 (by rw [q4]; exact q1)
          have b3 := (h5 _ z3).1
          rw [q4] at b1 b2
          have b4 := (l t (by omega)).1
          omega
  · rw [xi_pi]
    by_cases e : a = g
    · simp [e]
    · rw [if_neg (fun q => e q.2), hM a ha]; simp [e]
  · have h1 : g + 1 ≤ t := h1
    simp at h2
    omega
  · simp at h2
    subst h2
    omega
theorem m_args_36 (h : RC B σ) (w : wfB B) (ht : t < bma B) (hM : mkd σ 36 M)
    (k : ∀ σ' M', onlyI 36 σ σ' → mkd σ' 36 M' → (∀ a, M' a = true ↔ M a = true ∨ sonOf B t a) → Q (.inl none) σ') : wp_Terms_markArguments_6_36 Q σ (nI t) := by
  have hm := wf_ma w
  obtain ⟨f1, f2, f3⟩ := wf_fi w ht
  unfold wp_Terms_markArguments_6_36
  simp (disch := omega) only [i32_lit, l64_lit, lc_eq, lc_ge, lc_le, lc_gt, lc_lt, jL_inj, jL_add, jL_sub, jL_mul, jL_neg, jL_and, jL_or, jL_xor, jL_mone, BitVec.xor_allOnes, nI_clamp, nI_ltI, nI_leI, nI_eq, nI_1, nI_add, nI_sub, nI_addm, nI_mul, vp_in_n, xi_pi, xi_pl, xl_pi, xl_pl, xb_pi, xb_pl, xqi_i, xql_l, xqv_v, xqi_e, xql_e, xqv_e, forall_eq, true_and, and_true, rc_fi h]
  have key := loop_i (σ := xS) (fun n i s => w_Terms_markArguments_6_36_7 Q n (nI t) (nI i) s) (fun i s => bfi B t ≤ i ∧ onlyI 36 σ s ∧ ∃ M', mkd s 36 M' ∧ ∀ a, M' a = true ↔ M a = true ∨ (bop B a ≠ 47 ∧ ∃ j, bfi B t ≤ j ∧ j < i ∧ bar B j = a)) (bfi B (t + 1)) (fun n s hI => ?_) (fun n i s hi hI hs => ?_)
  · exact ⟨_, key (bfi B (t + 1) - bfi B t + 1) (bfi B t) σ (by omega) (by omega) ⟨Nat.le_refl _, onlyI.refl _ _, M, hM, fun a => ⟨Or.inl, fun z => z.elim id (fun ⟨_, j, h1, h2, _⟩ => absurd h1 (by omega))⟩⟩⟩
  · unfold w_Terms_markArguments_6_36_7
    obtain ⟨h0, h1, M', h2, h3⟩ := hI
    have r := h1.rc (by decide) h
    simp (disch := omega) only [i32_lit, l64_lit, lc_eq, lc_ge, lc_le, lc_gt, lc_lt, jL_inj, jL_add, jL_sub, jL_mul, jL_neg, jL_and, jL_or, jL_xor, jL_mone, BitVec.xor_allOnes, nI_clamp, nI_ltI, nI_leI, nI_eq, nI_1, nI_add, nI_sub, nI_addm, nI_mul, vp_in_n, xi_pi, xi_pl, xl_pi, xl_pl, xb_pi, xb_pl, xqi_i, xql_l, xqv_v, xqi_e, xql_e, xqv_e, forall_eq, true_and, and_true, rc_fi r]
    exact ⟨fun _ => k s M' h1 h2 h3, fun z => absurd (Nat.le_refl _) z⟩
  · unfold w_Terms_markArguments_6_36_7
    obtain ⟨h0, h1, M', h2, h3⟩ := hI
    have r := h1.rc (by decide) h
    have ha := wf_ar w ht h0 hi
    have hb : bop B (bar B i) ≤ 48 := (typ_op (wf_ty w (show bar B i < bma B by omega))).2
    simp (disch := omega) only [i32_lit, l64_lit, lc_eq, lc_ge, lc_le, lc_gt, lc_lt, jL_inj, jL_add, jL_sub, jL_mul, jL_neg, jL_and, jL_or, jL_xor, jL_mone, BitVec.xor_allOnes, nI_clamp, nI_ltI, nI_leI, nI_eq, nI_1, nI_add, nI_sub, nI_addm, nI_mul, vp_in_n, xi_pi, xi_pl, xl_pi, xl_pl, xb_pi, xb_pl, xqi_i, xql_l, xqv_v, xqi_e, xql_e, xqv_e, forall_eq, true_and, and_true, rc_fi r, rc_ar r, rc_op r, nar_1]
    refine ⟨fun z => absurd z (by omega), fun _ => ⟨fun z => ?_, fun z => ?_⟩⟩
    · refine hs s ⟨by omega, h1, M', h2, fun a => (h3 a).trans ⟨fun q => q.imp id (fun ⟨q1, j, q2, q3, q4⟩ => ⟨q1, j, q2, by omega, q4⟩), fun q => q.imp id (fun ⟨q1, j, q2, q3, q4⟩ => ⟨q1, j, q2, ?_, q4⟩)⟩⟩
      by_cases e : j = i
      · subst e; rw [q4] at z; exact absurd z q1
      · omega
    · refine hs _ ⟨by omega, h1.trans (onlyI.pi _ _ _ _), fun a => if a = bar B i then true else M' a, fun a ha2 => ?_, fun a => ?_⟩
      · rw [xi_pi]
        show _ = nI (if (if a = bar B i then true else M' a) = true then 1 else 0)
        by_cases e : a = bar B i
        · rw [if_pos ⟨rfl, e⟩, if_pos e]; rfl
        · rw [if_neg (fun q => e q.2), if_neg e]; exact h2 a ha2
      · show (if a = bar B i then true else M' a) = true ↔ _
        by_cases e : a = bar B i
        · rw [if_pos e]
          refine ⟨fun _ => Or.inr ⟨by rw [e]; exact z, i, h0, by omega, e.symm⟩, fun _ => rfl⟩
        · rw [if_neg e, h3 a]
          refine ⟨fun q => q.imp id (fun ⟨q1, j, q2, q3, q4⟩ => ⟨q1, j, q2, by omega, q4⟩), fun q => q.imp id (fun ⟨q1, j, q2, q3, q4⟩ => ⟨q1, j, q2, ?_, q4⟩)⟩
          by_cases e2 : j = i
          · subst e2; exact absurd q4.symm e
          · omega
theorem m_cone_36 (h : RC B σ) (w : wfB B) (l : lwB B) (hg : g < bma B) (hM : mkd σ 36 (fun _ => false))
    (k : ∀ σ' M, onlyI 36 σ σ' → mkd σ' 36 M → isCone B g M → Q (.inl none) σ') : wp_Terms_markCone_6_36 Q σ (nI g) := by
  have hm := wf_ma w
  unfold wp_Terms_markCone_6_36
  simp (disch := omega) only [i32_lit, l64_lit, lc_eq, lc_ge, lc_le, lc_gt, lc_lt, jL_inj, jL_add, jL_sub, jL_mul, jL_neg, jL_and, jL_or, jL_xor, jL_mone, BitVec.xor_allOnes, nI_clamp, nI_ltI, nI_leI, nI_eq, nI_1, nI_add, nI_sub, nI_addm, nI_mul, vp_in_n, xi_pi, xi_pl, xl_pi, xl_pl, xb_pi, xb_pl, xqi_i, xql_l, xqv_v, xqi_e, xql_e, xqv_e, forall_eq, true_and, and_true, nar_1]
  have lg := (l g hg).1
  have key := loop_m (σ := Nat × xS) (fun n s => w_Terms_markCone_6_36_6 Q n (nI g) (nI s.1 + -nI 1) s.2) (fun s => blw B g ≤ s.1 ∧ s.1 ≤ g + 1 ∧ onlyI 36 σ s.2 ∧ ∃ M, mkd s.2 36 M ∧ M g = true ∧ (∀ t a, s.1 ≤ t → M t = true → sonOf B t a → M a = true) ∧ ∀ t, M t = true → blw B g ≤ blw B t ∧ blw B g ≤ t ∧ t ≤ g) (fun s => s.1) (fun n s hI hs => ?_) (g + 1, xpi σ 36 g (nI 1)) ⟨by omega, by omega, onlyI.pi _ _ _ _, fun a => decide (a = g), fun a ha => ?_, by simp, fun t a h1 h2 _ => ?_, fun t h2 => ?_⟩
  · obtain ⟨n, hn⟩ := key
    refine ⟨n, ?_⟩
    have e : nI (g + 1) + -nI 1 = nI g := by rw [nI_addm (by omega)]; rfl
    have hn : w_Terms_markCone_6_36_6 Q n (nI g) (nI (g + 1) + -nI 1) (xpi σ 36 g (nI 1)) := hn
    rw [e] at hn
    exact hn
  · obtain ⟨h0, h0', h1, M, h2, h3, h4, h5⟩ := hI
    have r := h1.rc (by decide) h
    show w_Terms_markCone_6_36_6 Q (n + 1) (nI g) (nI s.1 + -nI 1) s.2
    unfold w_Terms_markCone_6_36_6
    simp (disch := omega) only [i32_lit, l64_lit, lc_eq, lc_ge, lc_le, lc_gt, lc_lt, jL_inj, jL_add, jL_sub, jL_mul, jL_neg, jL_and, jL_or, jL_xor, jL_mone, BitVec.xor_allOnes, nI_clamp, nI_ltI, nI_leI, nI_eq, nI_1, nI_add, nI_sub, nI_addm, nI_mul, vp_in_n, xi_pi, xi_pl, xl_pi, xl_pl, xb_pi, xb_pl, xqi_i, xql_l, xqv_v, xqi_e, xql_e, xqv_e, forall_eq, true_and, and_true, rc_lw r, nI_m1lt]
    refine ⟨fun z => k s.2 M h1 h2 ⟨h3, fun t a h6 => h4 t a (by have := (h5 t h6).2.1; omega) h6, fun t h6 => (h5 t h6).2⟩, fun z => ?_⟩
    have e1 : nI s.1 + -nI 1 = nI (s.1 - 1) := nI_addm (by omega)
    have lt : s.1 - 1 < bma B := by omega
    rw [e1]
    simp (disch := omega) only [i32_lit, l64_lit, lc_eq, lc_ge, lc_le, lc_gt, lc_lt, jL_inj, jL_add, jL_sub, jL_mul, jL_neg, jL_and, jL_or, jL_xor, jL_mone, BitVec.xor_allOnes, nI_clamp, nI_ltI, nI_leI, nI_eq, nI_1, nI_add, nI_sub, nI_addm, nI_mul, vp_in_n, xi_pi, xi_pl, xl_pi, xl_pl, xb_pi, xb_pl, xqi_i, xql_l, xqv_v, xqi_e, xql_e, xqv_e, forall_eq, true_and, and_true, mkd_0 h2]
    refine ⟨fun z2 => ?_, fun z2 => ?_⟩
    · have := hs (s.1 - 1, s.2) ⟨by omega, by omega, h1, M, h2, h3, fun t a h6 h7 => ?_, h5⟩ (by omega)
      · have e2 : nI (s.1 - 1) + -nI 1 = nI (s.1 - 1) - nI 1 := by rw [Int32.sub_eq_add_neg]
        exact this
      · by_cases e : t = s.1 - 1
        · rw [e, z2] at h7; cases h7
        · exact h4 t a (by have h6 : s.1 - 1 ≤ t := h6; omega) h7
    · refine m_args_36 r w lt h2 (fun σ' M' a1 a2 a3 => ?_)
      have z3 : M (s.1 - 1) = true := by revert z2; cases M (s.1 - 1) <;> simp
      rw [xqv_v]
      have := hs (s.1 - 1, σ') ⟨by omega, by omega, h1.trans a1, M', a2, (a3 g).mpr (Or.inl h3), fun t a h6 h7 h8 => ?_, fun t h6 => ?_⟩ (by omega)
      · exact this
      · rcases (a3 t).mp h7 with q | q
        · by_cases e : t = s.1 - 1
          · rw [e] at h8; exact (a3 a).mpr (Or.inr h8)
          · exact (a3 a).mpr (Or.inl (h4 t a (by have h6 : s.1 - 1 ≤ t := h6; omega) q h8))
        · obtain ⟨q1, i, q2, q3, q4⟩ := q
          have := wf_ar w lt q2 q3
          have h6 : s.1 - 1 ≤ t := h6
          omega
      · rcases (a3 t).mp h6 with q | ⟨q1, i, q2, q3, q4⟩
        · exact h5 t q
        · have b1 := wf_ar w lt q2 q3
          have b2 := (l (s.1 - 1) lt).2 i q2 q3 (by rw [q4]; exact q1)
          have b3 := (h5 _ z3).1
          rw [q4] at b1 b2
          have b4 := (l t (by omega)).1
          omega
  · rw [xi_pi]
    by_cases e : a = g
    · simp [e]
    · rw [if_neg (fun q => e q.2), hM a ha]; simp [e]
  · have h1 : g + 1 ≤ t := h1
    simp at h2
    omega
  · simp at h2
    subst h2
    omega
end CONE
