section OK6
variable {B : Bk} {kn on v : Nat → BitVec 64} {t S J : Nat}
theorem two_33 {x s : BitVec 64} {W : Nat} : two 33 x s W = if s.toNat < W then x <<< s.toNat else 0#64 := rfl
theorem two_34 {x s : BitVec 64} {W : Nat} : two 34 x s W = if s.toNat < W then x >>> s.toNat else 0#64 := rfl
theorem two_35 {x s : BitVec 64} {W : Nat} : two 35 x s W = (sgn x W).sshiftRight (sshf s W) := rfl
theorem sh_33 {x k o s : BitVec 64} {W : Nat} (h : ag x k o) : tOk B (two 33 x s W &&& bful B t) t (shK 33 W (bful B t) k o s) := by
  rw [two_33]
  unfold shK
  rw [if_neg (show ¬ (33 : Nat) = 35 by decide)]
  by_cases e : s.toNat < W
  · rw [if_pos e, if_neg (fun q => q e), if_pos rfl]
    exact ⟨snd_shl h, and_F _ _⟩
  · rw [if_neg e, if_pos e]
    exact ok_full rfl
theorem sh_34 {x k o s : BitVec 64} {W : Nat} (h : ag x k o) (hw : bful B t = bm W) (hW : W ≤ 64) (hk : k &&& bful B t = k) (hx : x &&& bful B t = x) : tOk B (two 34 x s W &&& bful B t) t (shK 34 W (bful B t) k o s) := by
  rw [two_34]
  unfold shK
  rw [if_neg (show ¬ (34 : Nat) = 35 by decide)]
  by_cases e : s.toNat < W
  · rw [if_pos e, if_neg (fun q => q e), if_neg (show ¬ (34 : Nat) = 33 by decide)]
    have hf : ∀ j, (bful B t >>> s.toNat).getLsbD j = true → (bful B t).getLsbD j = true := by
      intro j hj
      rw [BitVec.getLsbD_ushiftRight, hw, bm_bit] at hj
      simp at hj
      rw [hw, bm_bit]
      simp
      omega
    refine ⟨snd_lshr h hx hf hk, sub_bits (fun i hi hb => ?_)⟩
    simp only [BitVec.getLsbD_or, BitVec.getLsbD_and, BitVec.getLsbD_ushiftRight, Bool.or_eq_true, Bool.and_eq_true] at hb
    rcases hb with hb | hb
    · apply hf
      rw [BitVec.getLsbD_ushiftRight]
      exact bits_sub hk hb
    · exact hb.1
  · rw [if_neg e, if_pos e]
    exact ok_full rfl
theorem sh_35 {x k o s : BitVec 64} {W : Nat} (h1 : 1 ≤ W) (h2 : W ≤ 64) (h : ag x k o) : tOk B (two 35 x s W &&& bful B t) t (shK 35 W (bful B t) k o s) := by
  rw [two_35]
  unfold shK
  rw [if_pos rfl]
  exact ⟨snd_ashr h1 h2 h, and_F _ _⟩
theorem ok_shift (w : wfB B) (ht : t < bma B) (hA : ∀ i, i < bfi B (t + 1) - bfi B t → arOk B v kn on (bar B (bfi B t + i))) (z : bop B t = 33 ∨ bop B t = 34 ∨ bop B t = 35) : tOk B (stp B S J v t) t (chk B kn on t) := by
  have ty := wf_ty w ht
  rw [stp_ap (by omega) (by omega)]
  have y : (bfi B (t + 1) - bfi B t) = 2 ∧ bso B (bar B (bfi B t)) = bso B (bar B (bfi B t + 1)) ∧ 1 ≤ bso B (bar B (bfi B t)) ∧ bso B (bar B (bfi B t)) ≤ 64 ∧ (bso B t) = bso B (bar B (bfi B t)) := by
    rcases z with z | z | z
    · exact ty_33 ty z
    · exact ty_34 ty z
    · exact ty_35 ty z
  obtain ⟨a1, a2, a3⟩ : arOk B v kn on (bar B (bfi B t)) := hA 0 (by omega)
  obtain ⟨b1, b2, b3⟩ := hA 1 (by omega)
  rw [bful_eq (show bso B (bar B (bfi B t)) = bso B t by omega)] at a2 a3
  have fv : bful B t = bm (bso B t) := bful_v (by omega) (by omega)
  rcases z with z | z | z
  · rw [ap_33 z, ck_33 z, ← y.2.2.2.2]
    by_cases e : kn (bar B (bfi B t + 1)) = bful B (bar B (bfi B t + 1))
    · rw [if_pos e, ag_all b1 e b3]; exact sh_33 a1
    · rw [if_neg e]; exact ok_0 _
  · rw [ap_34 z, ck_34 z, ← y.2.2.2.2]
    by_cases e : kn (bar B (bfi B t + 1)) = bful B (bar B (bfi B t + 1))
    · rw [if_pos e, ag_all b1 e b3]; exact sh_34 a1 fv (by omega) a2 a3
    · rw [if_neg e]; exact ok_0 _
  · rw [ap_35 z, ck_35 z, ← y.2.2.2.2]
    by_cases e : kn (bar B (bfi B t + 1)) = bful B (bar B (bfi B t + 1))
    · rw [if_pos e, ag_all b1 e b3]; exact sh_35 (by omega) (by omega) a1
    · rw [if_neg e]; exact ok_0 _
theorem turn_sub {op W : Nat} (h1 : 1 ≤ W) (h2 : W ≤ 64) : turn op W &&& bm W = turn op W := by
  unfold turn
  split
  · simp
  · refine sub_bits (fun i hi hb => ?_)
    rw [BitVec.getLsbD_shiftLeft] at hb
    simp at hb
    rw [bm_bit]
    simp
    omega
theorem cmK_1 {op W : Nat} {a b la ma lb mb : BitVec 64} (ho : 36 ≤ op ∧ op ≤ 43) (a1 : la.toNat ≤ (a ^^^ turn op W).toNat) (a2 : (a ^^^ turn op W).toNat ≤ ma.toNat) (b1 : lb.toNat ≤ (b ^^^ turn op W).toNat) (b2 : (b ^^^ turn op W).toNat ≤ mb.toNat) :
    ((cmK op la ma lb mb).1 = true → cmpA op a b W) ∧ ((cmK op la ma lb mb).2 = true → ¬ cmpA op a b W) := by
  unfold cmK cmpA ltB
  by_cases e1 : op = 36 ∨ op = 40
  · simp only [if_pos e1, decide_eq_true_eq, Bool.not_eq_true', decide_eq_false_iff_not]
    omega
  · rw [if_neg e1, if_neg e1]
    by_cases e2 : op = 37 ∨ op = 41
    · simp only [if_pos e2, decide_eq_true_eq, Bool.not_eq_true', decide_eq_false_iff_not]
      omega
    · rw [if_neg e2, if_neg e2]
      by_cases e3 : op = 38 ∨ op = 42
      · simp only [if_pos e3, decide_eq_true_eq, Bool.not_eq_true', decide_eq_false_iff_not]
        omega
      · simp only [if_neg e3, decide_eq_true_eq, Bool.not_eq_true', decide_eq_false_iff_not]
        omega
theorem ok_cmp (w : wfB B) (ht : t < bma B) (hA : ∀ i, i < bfi B (t + 1) - bfi B t → arOk B v kn on (bar B (bfi B t + i))) (z : 36 ≤ bop B t ∧ bop B t ≤ 43) : tOk B (stp B S J v t) t (chk B kn on t) := by
  have ty := wf_ty w ht
  rw [stp_ap (by omega) (by omega)]
  have key : ∀ op, 36 ≤ op ∧ op ≤ 43 → ((bfi B (t + 1) - bfi B t) = 2 ∧ bso B (bar B (bfi B t)) = bso B (bar B (bfi B t + 1)) ∧ 1 ≤ bso B (bar B (bfi B t)) ∧ bso B (bar B (bfi B t)) ≤ 64 ∧ (bso B t) = 0) →
      tOk B (bit (cmpA op (v (bar B (bfi B t))) (v (bar B (bfi B t + 1))) (bso B (bar B (bfi B t)))) &&& bful B t) t (eiK (cmK op (lst (kn (bar B (bfi B t))) (on (bar B (bfi B t))) (turn op (bso B (bar B (bfi B t))))) (mst (kn (bar B (bfi B t))) (on (bar B (bfi B t))) (turn op (bso B (bar B (bfi B t)))) (bful B (bar B (bfi B t)))) (lst (kn (bar B (bfi B t + 1))) (on (bar B (bfi B t + 1))) (turn op (bso B (bar B (bfi B t))))) (mst (kn (bar B (bfi B t + 1))) (on (bar B (bfi B t + 1))) (turn op (bso B (bar B (bfi B t)))) (bful B (bar B (bfi B t + 1)))))) := by
    intro op ho y
    obtain ⟨a1, a2, a3⟩ : arOk B v kn on (bar B (bfi B t)) := hA 0 (by omega)
    obtain ⟨b1, b2, b3⟩ := hA 1 (by omega)
    have f1 : bful B (bar B (bfi B t)) = bm (bso B (bar B (bfi B t))) := bful_v (by omega) (by omega)
    have f2 : bful B (bar B (bfi B t + 1)) = bm (bso B (bar B (bfi B t))) := by rw [← f1]; exact (bful_eq y.2.1).symm
    have ts := turn_sub (op := op) y.2.2.1 y.2.2.2.1
    have c := cmK_1 (op := op) (W := bso B (bar B (bfi B t))) ho (lst_le a1) (le_mst a1 a3 (by rw [f1]; exact ts)) (lst_le b1) (le_mst b1 b3 (by rw [f2]; exact ts))
    exact ok_ei y.2.2.2.2 c.1 c.2
  have z' : bop B t = 36 ∨ bop B t = 37 ∨ bop B t = 38 ∨ bop B t = 39 ∨ bop B t = 40 ∨ bop B t = 41 ∨ bop B t = 42 ∨ bop B t = 43 := by omega
  rcases z' with z | z | z | z | z | z | z | z
  · rw [ap_36 z, ck_36 z]; exact key 36 (by decide) (ty_36 ty z)
  · rw [ap_37 z, ck_37 z]; exact key 37 (by decide) (ty_37 ty z)
  · rw [ap_38 z, ck_38 z]; exact key 38 (by decide) (ty_38 ty z)
  · rw [ap_39 z, ck_39 z]; exact key 39 (by decide) (ty_39 ty z)
  · rw [ap_40 z, ck_40 z]; exact key 40 (by decide) (ty_40 ty z)
  · rw [ap_41 z, ck_41 z]; exact key 41 (by decide) (ty_41 ty z)
  · rw [ap_42 z, ck_42 z]; exact key 42 (by decide) (ty_42 ty z)
  · rw [ap_43 z, ck_43 z]; exact key 43 (by decide) (ty_43 ty z)
theorem catK_bits {k o : Nat → BitVec 64} {w : Nat → Nat} {N : Nat} (hk : ∀ i, i < N → ∀ j, w i ≤ j → (k i).getLsbD j = false) : ∀ n, n ≤ N → ∀ j, ((List.range n).map w).sum ≤ j → (catK k o w n).1.getLsbD j = false
  | 0, _, j, _ => by show (0#64).getLsbD j = false; simp
  | n + 1, hn, j, hj => by
    rw [List.range_succ, List.map_append, List.sum_append] at hj
    simp only [List.map_cons, List.map_nil, List.sum_cons, List.sum_nil, Nat.add_zero] at hj
    have ih := catK_bits (o := o) hk n (by omega) (j - w n) (by omega)
    simp only [catK, BitVec.getLsbD_or, BitVec.getLsbD_shiftLeft, ih, hk n (by omega) j (by omega)]
    simp
theorem sub_hi {k : BitVec 64} {W j : Nat} (h : k &&& bm W = k) (hj : W ≤ j) : k.getLsbD j = false := by
  cases e : k.getLsbD j with
  | false => rfl
  | true =>
    have := bits_sub h e
    rw [bm_bit] at this
    simp at this
    omega
theorem ok_cat (w : wfB B) (ht : t < bma B) (hA : ∀ i, i < bfi B (t + 1) - bfi B t → arOk B v kn on (bar B (bfi B t + i))) (z : bop B t = 44) : tOk B (stp B S J v t) t (chk B kn on t) := by
  have y := ty_44 (wf_ty w ht) z
  rw [stp_ap (by omega) (by omega), ap_44 z, ck_44 z]
  have fv : ∀ i, i < bfi B (t + 1) - bfi B t → bful B (bar B (bfi B t + i)) = bm (bso B (bar B (bfi B t + i))) := fun i hi => bful_v (y.2.1 i hi).1 (by have := (y.2.1 i hi).2; omega)
  have hk : ∀ i, i < bfi B (t + 1) - bfi B t → ∀ j, bso B (bar B (bfi B t + i)) ≤ j → (kn (bar B (bfi B t + i))).getLsbD j = false := fun i hi j hj => sub_hi (by rw [← fv i hi]; exact (hA i hi).2.1) hj
  have hg : ∀ i, i < bfi B (t + 1) - bfi B t → ∀ j, bso B (bar B (bfi B t + i)) ≤ j → (v (bar B (bfi B t + i))).getLsbD j = false := fun i hi j hj => sub_hi (by rw [← fv i hi]; exact (hA i hi).2.2) hj
  have h1 := catK_1 (k := fun i => kn (bar B (bfi B t + i))) (o := fun i => on (bar B (bfi B t + i))) (g := fun i => v (bar B (bfi B t + i))) (w := fun i => bso B (bar B (bfi B t + i))) (N := bfi B (t + 1) - bfi B t) (fun i hi => (hA i hi).1) hg hk _ (Nat.le_refl _)
  have h2 := catK_bits (o := fun i => on (bar B (bfi B t + i))) hk _ (Nat.le_refl _)
  have hs : 1 ≤ bso B t := by
    have := (y.2.1 0 (by omega)).1
    rw [y.2.2.1]
    obtain ⟨n, hn⟩ : ∃ n, bfi B (t + 1) - bfi B t = n + 1 := ⟨_, (Nat.succ_pred (by omega)).symm⟩
    rw [hn, List.range_succ_eq_map, List.map_cons, List.sum_cons]
    show 1 ≤ bso B (bar B (bfi B t + 0)) + _
    omega
  have hsub : (catK (fun i => kn (bar B (bfi B t + i))) (fun i => on (bar B (bfi B t + i))) (fun i => bso B (bar B (bfi B t + i))) (bfi B (t + 1) - bfi B t)).1 &&& bful B t = (catK (fun i => kn (bar B (bfi B t + i))) (fun i => on (bar B (bfi B t + i))) (fun i => bso B (bar B (bfi B t + i))) (bfi B (t + 1) - bfi B t)).1 := by
    rw [bful_v hs y.2.2.2]
    refine sub_bits (fun i hi hb => ?_)
    rw [bm_bit]
    by_cases q : i < bso B t
    · simp [q, hi]
    · rw [h2 i (by rw [← y.2.2.1]; omega)] at hb
      cases hb
  exact ⟨snd_cut h1 hsub, hsub⟩
end OK6
