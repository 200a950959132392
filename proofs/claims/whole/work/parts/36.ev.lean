/-! what each term is worth under an interpretation -/
noncomputable def evL (B : Bk) (J : Nat) : Nat → Nat → BitVec 64
  | 0 => fun _ => 0#64
  | t + 1 => fun a => if a = t then stp B (bsz B) J (evL B J t) t else evL B J t a
noncomputable def ev (B : Bk) (J t : Nat) : BitVec 64 := evL B J (t + 1) t
theorem ev_eq (B : Bk) (J t : Nat) : ev B J t = stp B (bsz B) J (evL B J t) t := if_pos rfl
theorem evL_lt (B : Bk) (J : Nat) : ∀ {n a : Nat}, a < n → evL B J n a = ev B J a
  | 0, a, h => absurd h (Nat.not_lt_zero a)
  | n + 1, a, h => by
    by_cases e : a = n
    · subst e; rfl
    · exact (if_neg e).trans (evL_lt B J (by omega))
section EV
variable {Q : xO → xS → Prop} {σ : xS} {B : Bk} {t J : Nat}
theorem wf_th {i : Nat} (w : wfB B) (hi : i < bth B) : btt B i < bma B ∧ bop B (btt B i) = 47 ∧ blo B (btt B i) = i ∧ bbe B (i + 1) = bbe B i + szs (bso B (btt B i)) := w.2.2.2.2.1 i hi
theorem be_le (w : wfB B) : ∀ d i, i + d = bth B → bbe B i ≤ bsz B
  | 0, i, h => by rw [show i = bth B by omega]; exact Nat.le_refl _
  | d + 1, i, h => by
    have h1 := be_le w d (i + 1) (by omega)
    have h2 := (wf_th w (show i < bth B by omega)).2.2.2
    omega
theorem be_sz (w : wfB B) {i : Nat} (hi : i ≤ bth B) : bbe B i ≤ bsz B := be_le w (bth B - i) i (by omega)
theorem bful_lt (x : BitVec 64) (t : Nat) : (x &&& bful B t).toNat < 2 ^ min 64 (szs (bso B t)) := by
  unfold bful
  rw [and_bm _ (Nat.min_le_left _ _)]
  exact Nat.mod_lt _ (Nat.two_pow_pos _)
theorem ev_lt (w : wfB B) (ht : t < bma B) : (ev B J t).toNat < 2 ^ min 64 (szs (bso B t)) := by
  rw [ev_eq]
  unfold stp
  split
  · exact bful_lt _ _
  · split
    · next h8 =>
      have y := ty_48 (wf_ty w ht) h8
      have ok := (wf_so w ht)
      have h1 : szs (bso B t) ≤ 64 := by
        by_cases h0 : bso B t = 0
        · unfold szs; rw [if_pos h0]; omega
        · have := vec_sz (s := bso B t) (by omega) y.2.1
          have h2 : szs (bso B t) = bso B t := by
            unfold szs
            rw [if_neg h0, show bso B t / 128 = 0 by omega, show bso B t % 128 = bso B t by omega]
            simp
          omega
      rw [Nat.min_eq_right h1]
      exact y.2.2
    · exact bful_lt _ _
theorem ev_vbd (w : wfB B) (ht : t < bma B) : vbd B (evL B J t) t := by
  intro i h1 h2
  have h3 := wf_ar w ht h1 h2
  rw [evL_lt B J h3]
  exact ev_lt w (by omega)
theorem ev_wth {c : Nat} (w : wfB B) (ht : t < bma B) (h : ∀ a, a < t → xl σ c a = jL (ev B J a)) : wth B σ c (evL B J t) t := by
  intro i h1 h2
  have h3 := wf_ar w ht h1 h2
  rw [evL_lt B J h3]
  exact h _ h3
theorem nI_ushr {a k : Nat} (ha : a < 2147483648) (hk : k < 32) : jiushr (nI a) (nI k) = nI (a / 2 ^ k) := by
  apply nI_inj
  have e : ((nI k).toUInt32 &&& Int32.toUInt32 31).toBitVec % 32 = BitVec.ofNat 32 k := (by decide +kernel : ∀ k, k < 32 → ((nI k).toUInt32 &&& Int32.toUInt32 31).toBitVec % 32 = BitVec.ofNat 32 k) k hk
  show ((nI a).toUInt32 >>> ((nI k).toUInt32 &&& Int32.toUInt32 31)).toBitVec.toNat = _
  rw [UInt32.toBitVec_shiftRight]
  show ((nI a).toUInt32.toBitVec >>> (((nI k).toUInt32 &&& Int32.toUInt32 31).toBitVec % 32)).toNat = _
  rw [e, BitVec.ushiftRight_eq', BitVec.toNat_ofNat, Nat.mod_eq_of_lt (show k < 2 ^ 32 by omega), BitVec.toNat_ushiftRight, nI_tb]
  show (BitVec.ofNat 32 a).toNat >>> k = _
  have := Nat.div_le_self a (2 ^ k)
  rw [BitVec.toNat_ofNat, BitVec.toNat_ofNat, Nat.shiftRight_eq_div_pow, Nat.mod_eq_of_lt (by omega), Nat.mod_eq_of_lt (by omega)]
theorem ofNat_shr {a k : Nat} (ha : a < 2147483648) : BitVec.ofNat 64 (a / 2 ^ k) = BitVec.ofNat 64 a >>> k := by
  apply BitVec.eq_of_toNat_eq
  have := Nat.div_le_self a (2 ^ k)
  rw [BitVec.toNat_ushiftRight, BitVec.toNat_ofNat, BitVec.toNat_ofNat, Nat.shiftRight_eq_div_pow, Nat.mod_eq_of_lt (by omega), Nat.mod_eq_of_lt (by omega)]
theorem ev_th {i : Nat} (w : wfB B) (hi : i < bth B) : ev B J (btt B i) = (BitVec.ofNat 64 J >>> (bsz B - bbe B (i + 1))) &&& bful B (btt B i) := by
  have y := wf_th w hi
  rw [ev_eq]
  unfold stp
  rw [if_pos y.2.1, y.2.2.1]
theorem th_inj {i j : Nat} (w : wfB B) (hi : i < bth B) (hj : j < bth B) (h : btt B i = btt B j) : i = j := by
  have y1 := (wf_th w hi).2.2.1
  have y2 := (wf_th w hj).2.2.1
  rw [h] at y1
  exact y1.symm.trans y2
/-- nothing but the long cell c has changed -/
def onlyL (c : Nat) (σ σ' : xS) : Prop := (∀ a b, xi σ' a b = xi σ a b) ∧ (∀ a b, a ≠ c → xl σ' a b = xl σ a b) ∧ xb σ' = xb σ
theorem onlyL.refl (c : Nat) (σ : xS) : onlyL c σ σ := ⟨fun _ _ => rfl, fun _ _ _ => rfl, rfl⟩
theorem onlyL.trans {c : Nat} {σ σ' σ2 : xS} (h : onlyL c σ σ') (h2 : onlyL c σ' σ2) : onlyL c σ σ2 := ⟨fun a b => (h2.1 a b).trans (h.1 a b), fun a b q => (h2.2.1 a b q).trans (h.2.1 a b q), h2.2.2.trans h.2.2⟩
theorem onlyL.pl (c : Nat) (σ : xS) (j : Nat) (x : Int64) : onlyL c σ (xpl σ c j x) := ⟨fun _ _ => rfl, fun a b q => by rw [xl_pl, if_neg (fun z => q z.1)], rfl⟩
theorem onlyL.rc {c : Nat} {σ' : xS} (h : onlyL c σ σ') (hc : 14 ≤ c) (r : RC B σ) : RC B σ' := r.keep (fun a b _ _ => h.1 a b) (fun a b h1 h2 => h.2.1 a b (by omega))
theorem e_takeThings_40 (h : RC B σ) (w : wfB B) (hS : bsz B ≤ 16) (hJ : J < 65536)
    (k : ∀ σ', onlyL 41 σ σ' → (∀ i, i < bth B → xl σ' 41 (btt B i) = jL (ev B J (btt B i))) → (∀ a, (∀ i, i < bth B → a ≠ btt B i) → xl σ' 41 a = xl σ 41 a) → Q (.inl none) σ') : wp_Evaluator_takeThings_40 Q σ (nI J) (nI (bsz B)) := by
  have hm := wf_ma w
  have ht5 : bth B ≤ 500 := w.1.2.2.2.1
  have key := loop_i (σ := xS) (fun n i s => w_Evaluator_takeThings_40_2 Q n (nI J) (nI (bsz B)) (nI i) s) (fun i s => onlyL 41 σ s ∧ (∀ j, j < i → xl s 41 (btt B j) = jL (ev B J (btt B j))) ∧ ∀ a, (∀ j, j < bth B → a ≠ btt B j) → xl s 41 a = xl σ 41 a) (bth B) (fun n s hI => ?_) (fun n i s hi hI hs => ?_)
  · exact ⟨_, key (bth B + 1) 0 σ (by omega) (by omega) ⟨onlyL.refl _ _, fun j hj => absurd hj (by omega), fun _ _ => rfl⟩⟩
  · unfold w_Evaluator_takeThings_40_2
    have r := hI.1.rc (by decide) h
    simp (disch := omega) only [i32_lit, l64_lit, lc_eq, lc_ge, lc_le, lc_gt, lc_lt, jL_inj, jL_add, jL_sub, jL_mul, jL_neg, jL_and, jL_or, jL_xor, jL_mone, BitVec.xor_allOnes, nI_clamp, nI_ltI, nI_leI, nI_eq, nI_1, nI_add, nI_sub, nI_addm, nI_mul, vp_in_n, xi_pi, xi_pl, xl_pi, xl_pl, xb_pi, xb_pl, xqi_i, xql_l, xqv_v, xqi_e, xql_e, xqv_e, forall_eq, true_and, and_true, r.1.2.2.2.1]
    exact ⟨fun _ => k s hI.1 hI.2.1 hI.2.2, fun z => absurd (Nat.le_refl _) z⟩
  · unfold w_Evaluator_takeThings_40_2
    obtain ⟨h1, h2, h3⟩ := hI
    have r := h1.rc (by decide) h
    have y := wf_th w hi
    have b1 := be_sz w (show i + 1 ≤ bth B by omega)
    simp (disch := omega) only [i32_lit, l64_lit, lc_eq, lc_ge, lc_le, lc_gt, lc_lt, jL_inj, jL_add, jL_sub, jL_mul, jL_neg, jL_and, jL_or, jL_xor, jL_mone, BitVec.xor_allOnes, nI_clamp, nI_ltI, nI_leI, nI_eq, nI_1, nI_add, nI_sub, nI_addm, nI_mul, vp_in_n, xi_pi, xi_pl, xl_pi, xl_pl, xb_pi, xb_pl, xqi_i, xql_l, xqv_v, xqi_e, xql_e, xqv_e, forall_eq, true_and, and_true, r.1.2.2.2.1, rc_tt r]
    refine ⟨fun z => absurd z (by omega), fun _ => ?_⟩
    unfold wp_Book_shift
    simp (disch := omega) only [i32_lit, l64_lit, lc_eq, lc_ge, lc_le, lc_gt, lc_lt, jL_inj, jL_add, jL_sub, jL_mul, jL_neg, jL_and, jL_or, jL_xor, jL_mone, BitVec.xor_allOnes, nI_clamp, nI_ltI, nI_leI, nI_eq, nI_1, nI_add, nI_sub, nI_addm, nI_mul, vp_in_n, xi_pi, xi_pl, xl_pi, xl_pl, xb_pi, xb_pl, xqi_i, xql_l, xqv_v, xqi_e, xql_e, xqv_e, forall_eq, true_and, and_true, rc_be r, rc_fu r, nI_ushr]
    rw [jL_i2l (by have := Nat.div_le_self J (2 ^ (bsz B - bbe B (i + 1))); omega), ofNat_shr (by omega), jL_and, ← ev_th w hi]
    refine hs _ ⟨h1.trans (onlyL.pl _ _ _ _), fun j hj => ?_, fun a ha => ?_⟩
    · rw [xl_pl]
      by_cases e : btt B j = btt B i
      · rw [if_pos ⟨rfl, e⟩, e]
      · rw [if_neg (fun z => e z.2)]
        exact h2 j (by
          by_cases q : j = i
          · exact absurd (congrArg (btt B) q) e
          · omega)
    · rw [xl_pl, if_neg (fun z => ha i hi z.2)]
      exact h3 a ha
end EV
