/-! THE LEARNER: what it asks for. A a: the bits of term a that are asked for; mk: of the interpretation -/
def sbs (x y : BitVec 64) : Prop := x &&& y = x
theorem sbs.b {x y : BitVec 64} (h : sbs x y) {i : Nat} (hx : x.getLsbD i = true) : y.getLsbD i = true := bits_sub h hx
theorem sbs.of {x y : BitVec 64} (h : ∀ i, i < 64 → x.getLsbD i = true → y.getLsbD i = true) : sbs x y := sub_bits h
theorem sbs.refl (x : BitVec 64) : sbs x x := BitVec.and_self
theorem sbs.trans {x y z : BitVec 64} (h : sbs x y) (h2 : sbs y z) : sbs x z := sbs.of fun _ _ hb => h2.b (h.b hb)
theorem sbs.zero (x : BitVec 64) : sbs 0#64 x := by unfold sbs; simp
theorem sbs.orl (x y : BitVec 64) : sbs x (x ||| y) := sbs.of fun i _ hb => by rw [BitVec.getLsbD_or, hb]; rfl
theorem sbs.orr (x y : BitVec 64) : sbs y (x ||| y) := sbs.of fun i _ hb => by rw [BitVec.getLsbD_or, hb, Bool.or_true]
theorem sbs.or {x y z : BitVec 64} (h : sbs x z) (h2 : sbs y z) : sbs (x ||| y) z := sbs.of fun i _ hb => by
  rw [BitVec.getLsbD_or, Bool.or_eq_true] at hb
  exact hb.elim h.b h2.b
theorem sbs.andl {x z : BitVec 64} (h : sbs x z) (y : BitVec 64) : sbs (x &&& y) z := sbs.of fun i _ hb => by
  rw [BitVec.getLsbD_and, Bool.and_eq_true] at hb
  exact h.b hb.1
theorem sbs.andr (x y : BitVec 64) : sbs (x &&& y) y := sbs.of fun i _ hb => by
  rw [BitVec.getLsbD_and, Bool.and_eq_true] at hb
  exact hb.2
def onlyA (σ σ' : xS) : Prop := (∀ a b, ¬ (a = 42 ∧ b = 6) → xi σ' a b = xi σ a b) ∧ (∀ a b, a ≠ 43 → xl σ' a b = xl σ a b) ∧ xb σ' = xb σ
theorem onlyA.refl (σ : xS) : onlyA σ σ := ⟨fun _ _ _ => rfl, fun _ _ _ => rfl, rfl⟩
theorem onlyA.trans {σ σ' σ2 : xS} (h : onlyA σ σ') (h2 : onlyA σ' σ2) : onlyA σ σ2 := ⟨fun a b q => (h2.1 a b q).trans (h.1 a b q), fun a b q => (h2.2.1 a b q).trans (h.2.1 a b q), h2.2.2.trans h.2.2⟩
theorem onlyA.rc {B : Bk} {σ σ' : xS} (h : onlyA σ σ') (r : RC B σ) : RC B σ' := r.keep (fun a b _ _ => h.1 a b (by omega)) (fun a b h1 h2 => h.2.1 a b (by omega))
def aV (B : Bk) (li : Nat) (A : Nat → BitVec 64) (a : Nat) : BitVec 64 := if a < li ∧ a < bma B ∧ bop B a ≠ 47 ∧ bop B a ≠ 48 then A a else 0#64
def lnS (B : Bk) (li : Nat) (σ : xS) (A : Nat → BitVec 64) (mk : Nat) : Prop := RC B σ ∧ xi σ 42 5 = nI (bsz B) ∧ xi σ 42 6 = nI mk ∧ mk < 2 ^ bsz B ∧ thOK B mk A ∧ (∀ a, a < 2000 → xl σ 43 a = jL (aV B li A a)) ∧ ∀ a, a < bma B → sbs (A a) (bful B a)
/-- only of t's arguments more is asked for -/
def gro (B : Bk) (t : Nat) (A A' : Nat → BitVec 64) : Prop := (∀ a, sbs (A a) (A' a)) ∧ ∀ a, (∀ i, bfi B t ≤ i → i < bfi B (t + 1) → bar B i ≠ a) → A' a = A a
theorem gro.refl (B : Bk) (t : Nat) (A : Nat → BitVec 64) : gro B t A A := ⟨fun _ => sbs.refl _, fun _ _ => rfl⟩
theorem gro.trans {B : Bk} {t : Nat} {A A' A2 : Nat → BitVec 64} (h : gro B t A A') (h2 : gro B t A' A2) : gro B t A A2 := ⟨fun a => (h.1 a).trans (h2.1 a), fun a q => (h2.2 a q).trans (h.2 a q)⟩
def upA (A : Nat → BitVec 64) (a : Nat) (bits : BitVec 64) : Nat → BitVec 64 := fun b => if b = a then A b ||| bits else A b
theorem upA_e (A : Nat → BitVec 64) (bits : BitVec 64) {a b : Nat} (e : b = a) : upA A a bits b = A b ||| bits := if_pos e
theorem upA_n (A : Nat → BitVec 64) (bits : BitVec 64) {a b : Nat} (e : b ≠ a) : upA A a bits b = A b := if_neg e
theorem aV_n {B : Bk} {li a b : Nat} {A : Nat → BitVec 64} {bits : BitVec 64} (e : b ≠ a) : aV B li (upA A a bits) b = aV B li A b := by
  unfold aV
  rw [upA_n _ _ e]
theorem aV_k {B : Bk} {li a b : Nat} {A : Nat → BitVec 64} {bits : BitVec 64} (h : ¬ (a < bma B ∧ bop B a ≠ 47 ∧ bop B a ≠ 48)) : aV B li (upA A a bits) b = aV B li A b := by
  by_cases e : b = a
  · unfold aV
    rw [e, if_neg (fun q => h q.2), if_neg (fun q => h q.2)]
  · exact aV_n e
section ASK
variable {B : Bk} {σ : xS} {Q : xO → xS → Prop} {t mk li : Nat} {A : Nat → BitVec 64} {bits : BitVec 64}
theorem sub_nat {x : BitVec 64} {n : Nat} (hn : n ≤ 64) (h : sbs x (bm n)) : x.toNat < 2 ^ n := by
  unfold sbs at h
  rw [← h, and_bm _ hn]
  exact Nat.mod_lt _ (Nat.two_pow_pos _)
theorem thM_bit {m i j : Nat} : (thM B m i).getLsbD j = (m.testBit (bsz B - bbe B (i + 1) + j) && decide (bsz B - bbe B (i + 1) + j < 64) && (bful B (btt B i)).getLsbD j) := by
  unfold thM
  rw [BitVec.getLsbD_and, BitVec.getLsbD_ushiftRight, BitVec.getLsbD_ofNat, Bool.and_comm (decide _)]
theorem l_ask0 {a : Nat} (L : lnS B li σ A mk) (w : wfB B) (hS : bsz B ≤ 16) (ha : a < bma B) (hl : a < li) (hb : sbs bits (bful B a))
    (k : ∀ σ' mk', onlyA σ σ' → lnS B li σ' (upA A a bits) mk' → Q (.inl none) σ') : wp_Learner_ask Q σ (nI a) (jL bits) := by
  obtain ⟨r, l1, l2, l3, l4, l5, l6⟩ := L
  have hm := wf_ma w
  have hop := typ_op (wf_ty w ha)
  have fin : ∀ b, b < bma B → sbs (upA A a bits b) (bful B b) := fun b hb2 => by
    by_cases e : b = a
    · rw [upA_e _ _ e, e]; exact (l6 a ha).or hb
    · rw [upA_n _ _ e]; exact l6 b hb2
  unfold wp_Learner_ask
  simp (disch := omega) only [i32_lit, l64_lit, lc_eq, lc_ge, lc_le, lc_gt, lc_lt, jL_inj, jL_add, jL_sub, jL_mul, jL_neg, jL_and, jL_or, jL_xor, jL_mone, BitVec.xor_allOnes, nI_clamp, nI_ltI, nI_leI, nI_eq, nI_1, nI_add, nI_sub, nI_addm, nI_mul, vp_in_n, xi_pi, xi_pl, xl_pi, xl_pl, xb_pi, xb_pl, xqi_i, xql_l, xqv_v, xqi_e, xql_e, xqv_e, forall_eq, true_and, and_true, rc_op r]
  refine ⟨fun z => ⟨fun z2 => ?_, fun z2 => ?_⟩, fun z => ?_⟩
  · refine k σ mk (onlyA.refl σ) ⟨r, l1, l2, l3, fun i hi => ?_, fun b hb2 => ?_, fin⟩
    · rw [upA_n _ _ (fun q => z (by rw [← q]; exact (wf_th w hi).2.1))]; exact l4 i hi
    · rw [aV_k (fun q => q.2.2 z2)]; exact l5 b hb2
  · have o : onlyA σ (xpl σ 43 a (xl σ 43 a ||| jL bits)) := ⟨fun _ _ _ => rfl, fun c d q => by rw [xl_pl, if_neg (fun z => q z.1)], rfl⟩
    refine k _ mk o ⟨o.rc r, l1, l2, l3, fun i hi => ?_, fun b hb2 => ?_, fin⟩
    · rw [upA_n _ _ (fun q => z (by rw [← q]; exact (wf_th w hi).2.1))]; exact l4 i hi
    · rw [xl_pl]
      by_cases e : b = a
      · rw [if_pos ⟨rfl, e⟩, l5 a (by omega), e]
        unfold aV
        rw [if_pos ⟨hl, ha, z, z2⟩, if_pos ⟨hl, ha, z, z2⟩, upA_e _ _ rfl]; rfl
      · rw [if_neg (fun q => e q.2), aV_n e]; exact l5 b hb2
  · obtain ⟨y1, y2⟩ := th_of w ha z
    have yt := wf_th w y1
    have b1 := be_sz w (show blo B a + 1 ≤ bth B by omega)
    have ht5 : bth B ≤ 500 := w.1.2.2.2.1
    rw [y2] at yt
    simp (disch := omega) only [i32_lit, l64_lit, lc_eq, lc_ge, lc_le, lc_gt, lc_lt, jL_inj, jL_add, jL_sub, jL_mul, jL_neg, jL_and, jL_or, jL_xor, jL_mone, BitVec.xor_allOnes, nI_clamp, nI_ltI, nI_leI, nI_eq, nI_1, nI_add, nI_sub, nI_addm, nI_mul, vp_in_n, xi_pi, xi_pl, xl_pi, xl_pl, xb_pi, xb_pl, xqi_i, xql_l, xqv_v, xqi_e, xql_e, xqv_e, forall_eq, true_and, and_true, rc_lo r, rc_be r, l1, l2, jL_l2i, nI_shl]
    have sz : szs (bso B a) ≤ 16 := by omega
    have bl : bits.toNat < 2 ^ szs (bso B a) := sub_nat (by omega) (by unfold bful at hb; rw [Nat.min_eq_right (by omega)] at hb; exact hb)
    have bl2 : bits.toNat * 2 ^ (bsz B - bbe B (blo B a + 1)) < 2 ^ bsz B := by
      have h1 : 2 ^ szs (bso B a) * 2 ^ (bsz B - bbe B (blo B a + 1)) ≤ 2 ^ bsz B := by rw [← Nat.pow_add]; exact Nat.pow_le_pow_right (by decide) (by omega)
      exact Nat.lt_of_lt_of_le ((Nat.mul_lt_mul_right (Nat.two_pow_pos _)).mpr bl) h1
    have p16 : 2 ^ bsz B ≤ 65536 := Nat.pow_le_pow_right (n := 2) (by decide) hS
    rw [nI_or (by omega) (by omega)]
    have o : onlyA σ (xpi σ 42 6 (nI (mk ||| bits.toNat * 2 ^ (bsz B - bbe B (blo B a + 1))))) := ⟨fun c d q => by rw [xi_pi, if_neg q], fun _ _ _ => rfl, rfl⟩
    refine k _ (mk ||| bits.toNat * 2 ^ (bsz B - bbe B (blo B a + 1))) o ⟨o.rc r, (o.1 42 5 (by decide)).trans l1, by rw [xi_pi, if_pos ⟨rfl, rfl⟩], Nat.or_lt_two_pow l3 bl2, fun i hi => ?_, fun b hb2 => ?_, fin⟩
    · have mono : sbs (thM B mk i) (thM B (mk ||| bits.toNat * 2 ^ (bsz B - bbe B (blo B a + 1))) i) := sbs.of fun j hj q => by
        rw [thM_bit, Bool.and_eq_true, Bool.and_eq_true] at q
        rw [thM_bit, Nat.testBit_or, q.1.1, q.1.2, q.2]; rfl
      by_cases e : btt B i = a
      · rw [upA_e _ _ e]
        have ei : i = blo B a := by have := (wf_th w hi).2.2.1; rw [e] at this; exact this.symm
        refine sbs.or ((show sbs (A (btt B i)) (thM B mk i) from l4 i hi).trans mono) (sbs.of fun j hj q => ?_)
        have hf := hb.b q
        have hj2 : j < szs (bso B a) := by unfold bful at hf; rw [bm_bit] at hf; simp at hf; omega
        rw [thM_bit, Nat.testBit_or, Nat.testBit_mul_two_pow]
        rw [← ei] at *
        rw [e, hf]
        have : bits.toNat.testBit j = true := q
        simp [this]
        omega
      · rw [upA_n _ _ e]
        exact (show sbs (A (btt B i)) (thM B mk i) from l4 i hi).trans mono
    · rw [aV_k (fun q => q.2.1 z)]
      exact l5 b hb2
theorem l_ask {i : Nat} (L : lnS B li σ A mk) (w : wfB B) (hS : bsz B ≤ 16) (ht : t < bma B) (i1 : bfi B t ≤ i) (i2 : i < bfi B (t + 1)) (hl : t ≤ li) (hb : sbs bits (bful B (bar B i)))
    (k : ∀ σ' A' mk', onlyA σ σ' → lnS B li σ' A' mk' → gro B t A A' → sbs bits (A' (bar B i)) → Q (.inl none) σ') : wp_Learner_ask Q σ (nI (bar B i)) (jL bits) := by
  have lt := wf_ar w ht i1 i2
  refine l_ask0 L w hS (by omega) (by omega) hb (fun σ' mk' o L' => k σ' _ mk' o L' ⟨fun a => ?_, fun a q => upA_n _ _ (fun e => q i i1 i2 e.symm)⟩ ?_)
  · by_cases e : a = bar B i
    · rw [upA_e _ _ e]; exact sbs.orl _ _
    · rw [upA_n _ _ e]; exact sbs.refl _
  · rw [upA_e _ _ rfl]; exact sbs.orr _ _
theorem l_askAll (L : lnS B li σ A mk) (w : wfB B) (hS : bsz B ≤ 16) (ht : t < bma B) (hl : t ≤ li) (hb : ∀ i, bfi B t ≤ i → i < bfi B (t + 1) → sbs bits (bful B (bar B i)))
    (k : ∀ σ' A' mk', onlyA σ σ' → lnS B li σ' A' mk' → gro B t A A' → (∀ i, bfi B t ≤ i → i < bfi B (t + 1) → sbs bits (A' (bar B i))) → Q (.inl none) σ') : wp_Learner_askAll Q σ (nI t) (jL bits) := by
  have hm := wf_ma w
  obtain ⟨f1, f2, f3⟩ := wf_fi w ht
  unfold wp_Learner_askAll
  simp (disch := omega) only [i32_lit, l64_lit, lc_eq, lc_ge, lc_le, lc_gt, lc_lt, jL_inj, jL_add, jL_sub, jL_mul, jL_neg, jL_and, jL_or, jL_xor, jL_mone, BitVec.xor_allOnes, nI_clamp, nI_ltI, nI_leI, nI_eq, nI_1, nI_add, nI_sub, nI_addm, nI_mul, vp_in_n, xi_pi, xi_pl, xl_pi, xl_pl, xb_pi, xb_pl, xqi_i, xql_l, xqv_v, xqi_e, xql_e, xqv_e, forall_eq, true_and, and_true, rc_fi L.1]
  have key := loop_i (σ := xS) (fun n i s => w_Learner_askAll_11 Q n (nI t) (jL bits) (nI i) s) (fun i s => bfi B t ≤ i ∧ onlyA σ s ∧ ∃ A' mk', lnS B li s A' mk' ∧ gro B t A A' ∧ ∀ j, bfi B t ≤ j → j < i → sbs bits (A' (bar B j))) (bfi B (t + 1)) (fun n s hI => ?_) (fun n i s hi hI hs => ?_)
  · exact ⟨_, key (bfi B (t + 1) - bfi B t + 1) (bfi B t) σ (by omega) (by omega) ⟨Nat.le_refl _, onlyA.refl _, A, mk, L, gro.refl _ _ _, fun j h1 h2 => absurd h2 (by omega)⟩⟩
  · unfold w_Learner_askAll_11
    obtain ⟨h0, h1, A', mk', h2, h3, h4⟩ := hI
    simp (disch := omega) only [i32_lit, l64_lit, lc_eq, lc_ge, lc_le, lc_gt, lc_lt, jL_inj, jL_add, jL_sub, jL_mul, jL_neg, jL_and, jL_or, jL_xor, jL_mone, BitVec.xor_allOnes, nI_clamp, nI_ltI, nI_leI, nI_eq, nI_1, nI_add, nI_sub, nI_addm, nI_mul, vp_in_n, xi_pi, xi_pl, xl_pi, xl_pl, xb_pi, xb_pl, xqi_i, xql_l, xqv_v, xqi_e, xql_e, xqv_e, forall_eq, true_and, and_true, rc_fi h2.1]
    exact ⟨fun _ => k s A' mk' h1 h2 h3 h4, fun z => absurd (Nat.le_refl _) z⟩
  · unfold w_Learner_askAll_11
    obtain ⟨h0, h1, A', mk', h2, h3, h4⟩ := hI
    simp (disch := omega) only [i32_lit, l64_lit, lc_eq, lc_ge, lc_le, lc_gt, lc_lt, jL_inj, jL_add, jL_sub, jL_mul, jL_neg, jL_and, jL_or, jL_xor, jL_mone, BitVec.xor_allOnes, nI_clamp, nI_ltI, nI_leI, nI_eq, nI_1, nI_add, nI_sub, nI_addm, nI_mul, vp_in_n, xi_pi, xi_pl, xl_pi, xl_pl, xb_pi, xb_pl, xqi_i, xql_l, xqv_v, xqi_e, xql_e, xqv_e, forall_eq, true_and, and_true, rc_fi h2.1, rc_ar h2.1]
    refine ⟨fun z => absurd z (by omega), fun _ => ?_⟩
    refine l_ask h2 w hS ht h0 hi hl (hb i h0 hi) (fun σ' A2 mk2 o2 L2 g2 s2 => ?_)
    rw [xqv_v]
    refine hs σ' ⟨by omega, h1.trans o2, A2, mk2, L2, h3.trans g2, fun j j1 j2 => ?_⟩
    by_cases e : j = i
    · rw [e]; exact s2
    · exact (h4 j j1 (by omega)).trans (g2.1 _)
end ASK
