/-! THE CHECKER'S LOOK: followsFalse -/
def K45 (σ : xS) (a : Nat) : BitVec 64 := (xl σ 45 a).toBitVec
def K46 (σ : xS) (a : Nat) : BitVec 64 := (xl σ 46 a).toBitVec
theorem K45_e (σ : xS) (a : Nat) : xl σ 45 a = jL (K45 σ a) := rfl
theorem K46_e (σ : xS) (a : Nat) : xl σ 46 a = jL (K46 σ a) := rfl
/-- of t: where what is asked of its arguments is known, what is asked of it is worked out -/
def stOK (B : Bk) (J : Nat) (A : Nat → BitVec 64) (t : Nat) : Prop := ∀ kn on : Nat → BitVec 64, (∀ i, i < bfi B (t + 1) - bfi B t → arOk B (ev B J) kn on (bar B (bfi B t + i)) ∧ A (bar B (bfi B t + i)) &&& kn (bar B (bfi B t + i)) = A (bar B (bfi B t + i))) → A t &&& (chk B kn on t).1 = A t
def thM (B : Bk) (mk i : Nat) : BitVec 64 := (BitVec.ofNat 64 mk >>> (bsz B - bbe B (i + 1))) &&& bful B (btt B i)
def thOK (B : Bk) (mk : Nat) (A : Nat → BitVec 64) : Prop := ∀ i, i < bth B → A (btt B i) &&& thM B mk i = A (btt B i)
/-- A tells by what bits of the interpretation J, those of mk, g is false -/
def expl (B : Bk) (J mk : Nat) (A : Nat → BitVec 64) (g : Nat) : Prop := A g = 1#64 ∧ thOK B mk A ∧ ∀ t, t ≤ g → bop B t ≠ 47 → stOK B J A t
/-- only what the Checker knows has changed -/
def onlyK (σ σ' : xS) : Prop := (∀ a b, xi σ' a b = xi σ a b) ∧ (∀ a b, a ≠ 45 → a ≠ 46 → xl σ' a b = xl σ a b) ∧ xb σ' = xb σ
theorem onlyK.refl (σ : xS) : onlyK σ σ := ⟨fun _ _ => rfl, fun _ _ _ _ => rfl, rfl⟩
theorem onlyK.trans {σ σ' σ2 : xS} (h : onlyK σ σ') (h2 : onlyK σ' σ2) : onlyK σ σ2 := ⟨fun a b => (h2.1 a b).trans (h.1 a b), fun a b q1 q2 => (h2.2.1 a b q1 q2).trans (h.2.1 a b q1 q2), h2.2.2.trans h.2.2⟩
theorem onlyK.rc {B : Bk} {σ σ' : xS} (h : onlyK σ σ') (r : RC B σ) : RC B σ' := r.keep (fun a b _ _ => h.1 a b) (fun a b h1 h2 => h.2.1 a b (by omega) (by omega))
theorem lrnd.only {σ σ' : xS} {t : Nat} {k o : BitVec 64} (h : lrnd σ t k o σ') : onlyK σ σ' := ⟨h.1, fun a b h1 h2 => h.2.1 a b (Or.inl ⟨h1, h2⟩), h.2.2.1⟩
section FOL
variable {B : Bk} {σ : xS} {Q : xO → xS → Prop} {t g mk hd : Nat}
theorem th_ag {i J : Nat} (w : wfB B) (hi : i < bth B) (h : J &&& mk = hd) : ag (ev B J (btt B i)) (thM B mk i) ((BitVec.ofNat 64 hd >>> (bsz B - bbe B (i + 1))) &&& thM B mk i) := by
  rw [ev_th w hi, ← h]
  apply ag_l
  intro j hj hb
  unfold thM at hb
  simp only [BitVec.getLsbD_and, BitVec.getLsbD_ushiftRight, BitVec.getLsbD_ofNat, Bool.and_eq_true, decide_eq_true_eq, Nat.testBit_and] at hb ⊢
  simp [hb]
theorem thM_sub (mk i : Nat) : thM B mk i &&& bful B (btt B i) = thM B mk i := and_F _ _
theorem ev_sub {J : Nat} (w : wfB B) (ht : t < bma B) : ev B J t &&& bful B t = ev B J t := by
  apply BitVec.eq_of_toNat_eq
  unfold bful
  rw [and_bm _ (Nat.min_le_left _ _)]
  exact Nat.mod_eq_of_lt (ev_lt w ht)
theorem th_of (w : wfB B) (ht : t < bma B) (h : bop B t = 47) : blo B t < bth B ∧ btt B (blo B t) = t := by
  have y := ty_47 (wf_ty w ht) h
  exact ⟨y.2.1, y.2.2⟩
theorem c_workOut47 (h : RC B σ) (w : wfB B) (ht : t < bma B) (h7 : bop B t = 47) (q : Q (.inl none) σ) : wp_Checker_workOut Q σ (nI t) (nI (bfi B t)) := by
  have hm := wf_ma w
  unfold wp_Checker_workOut
  simp (disch := omega) only [i32_lit, l64_lit, lc_eq, lc_ge, lc_le, lc_gt, lc_lt, jL_inj, jL_add, jL_sub, jL_mul, jL_neg, jL_and, jL_or, jL_xor, jL_mone, BitVec.xor_allOnes, nI_clamp, nI_ltI, nI_leI, nI_eq, nI_1, nI_add, nI_sub, nI_addm, nI_mul, vp_in_n, xi_pi, xi_pl, xl_pi, xl_pl, xb_pi, xb_pl, xqi_i, xql_l, xqv_v, xqi_e, xql_e, xqv_e, forall_eq, true_and, and_true, rc_op h, h7]
  simp (disch := decide) only [Nat.reduceEqDiff, or_self, or_false, false_or, not_true_eq_false, not_false_eq_true, false_implies, implies_true, forall_const, true_implies, and_true, true_and]
  exact q
theorem c_things (h : RC B σ) (w : wfB B) (hS : bsz B ≤ 16) (h1 : mk < 65536) (h2 : hd < 65536) (gn : Int32)
    (k : ∀ σ', onlyK σ σ' → (∀ i, i < bth B → xl σ' 45 (btt B i) = jL (thM B mk i) ∧ xl σ' 46 (btt B i) = jL ((BitVec.ofNat 64 hd >>> (bsz B - bbe B (i + 1))) &&& thM B mk i)) →
      wp_Terms_markCone_6_47 (xqv (fun u1 => (vp_in gn 2000 ∧ (∀ x3 : Int32, x3 = (xi u1 14 gn.toNatClampNeg) → ∃ m, w_Checker_followsFalse_96 Q m gn x3 u1))) (fun n u => Q (.inr n) u)) σ' gn) : wp_Checker_followsFalse Q σ gn (nI mk) (nI hd) (nI (bsz B)) := by
  have hm := wf_ma w
  have ht5 : bth B ≤ 500 := w.1.2.2.2.1
  unfold wp_Checker_followsFalse
  have key := loop_i (σ := xS) (fun n i s => w_Checker_followsFalse_3 Q n gn (nI mk) (nI hd) (nI (bsz B)) (nI i) s) (fun i s => onlyK σ s ∧ ∀ j, j < i → xl s 45 (btt B j) = jL (thM B mk j) ∧ xl s 46 (btt B j) = jL ((BitVec.ofNat 64 hd >>> (bsz B - bbe B (j + 1))) &&& thM B mk j)) (bth B) (fun n s hI => ?_) (fun n i s hi hI hs => ?_)
  · exact ⟨_, key (bth B + 1) 0 σ (by omega) (by omega) ⟨onlyK.refl _, fun j hj => absurd hj (by omega)⟩⟩
  · unfold w_Checker_followsFalse_3
    have r := hI.1.rc h
    simp only [r.1.2.2.2.1]
    exact ⟨fun _ => k s hI.1 hI.2, fun z => absurd (Int32.le_refl _) z⟩
  · unfold w_Checker_followsFalse_3
    obtain ⟨o1, o2⟩ := hI
    have r := o1.rc h
    have y := wf_th w hi
    have b1 := be_sz w (show i + 1 ≤ bth B by omega)
    simp only [r.1.2.2.2.1]
    refine ⟨fun z => absurd ((nI_leI (by omega) (by omega)).mp z) (by omega), fun _ => ?_⟩
    simp (disch := omega) only [i32_lit, l64_lit, lc_eq, lc_ge, lc_le, lc_gt, lc_lt, jL_inj, jL_add, jL_sub, jL_mul, jL_neg, jL_and, jL_or, jL_xor, jL_mone, BitVec.xor_allOnes, nI_clamp, nI_ltI, nI_leI, nI_eq, nI_1, nI_add, nI_sub, nI_addm, nI_mul, vp_in_n, xi_pi, xi_pl, xl_pi, xl_pl, xb_pi, xb_pl, xqi_i, xql_l, xqv_v, xqi_e, xql_e, xqv_e, forall_eq, true_and, and_true, rc_tt r]
    unfold wp_Book_shift
    simp (disch := omega) only [i32_lit, l64_lit, lc_eq, lc_ge, lc_le, lc_gt, lc_lt, jL_inj, jL_add, jL_sub, jL_mul, jL_neg, jL_and, jL_or, jL_xor, jL_mone, BitVec.xor_allOnes, nI_clamp, nI_ltI, nI_leI, nI_eq, nI_1, nI_add, nI_sub, nI_addm, nI_mul, vp_in_n, xi_pi, xi_pl, xl_pi, xl_pl, xb_pi, xb_pl, xqi_i, xql_l, xqv_v, xqi_e, xql_e, xqv_e, forall_eq, true_and, and_true, rc_be r, rc_fu r, nI_ushr]
    rw [jL_i2l (by have := Nat.div_le_self mk (2 ^ (bsz B - bbe B (i + 1))); omega), ofNat_shr (by omega), jL_and, jL_i2l (by have := Nat.div_le_self hd (2 ^ (bsz B - bbe B (i + 1))); omega), ofNat_shr (by omega)]
    refine c_learn (by omega) (fun σ' L => ?_)
    rw [xqv_v]
    refine hs σ' ⟨o1.trans L.only, fun j hj => ?_⟩
    by_cases e : j = i
    · subst e
      exact ⟨L.2.2.2.1, L.2.2.2.2⟩
    · have e2 : btt B j ≠ btt B i := fun q => e (th_inj w (by omega) hi q)
      rw [L.2.1 45 _ (Or.inr e2), L.2.1 46 _ (Or.inr e2)]
      exact o2 j (by omega)
end FOL
