section OK7
variable {B : Bk} {kn on v : Nat → BitVec 64} {t S J : Nat}
theorem csh_w {s c : Nat} (hs : 128 ≤ s) (ho : okS s) : csh s c + s % 128 ≤ szs s := by
  unfold csh szs
  rw [if_neg (by omega)]
  have h1 := Nat.one_le_two_pow (n := s / 128)
  have h2 : (2 ^ (s / 128) - 1 - c) * (s % 128) + s % 128 = (2 ^ (s / 128) - 1 - c + 1) * (s % 128) := by rw [Nat.add_mul, Nat.one_mul]
  rw [h2, Nat.mul_comm (s % 128)]
  exact Nat.mul_le_mul_right _ (by omega)
theorem ok_sel (w : wfB B) (ht : t < bma B) (hA : ∀ i, i < bfi B (t + 1) - bfi B t → arOk B v kn on (bar B (bfi B t + i))) (z : bop B t = 45) : tOk B (stp B S J v t) t (chk B kn on t) := by
  have y := ty_45 (wf_ty w ht) z
  obtain ⟨f1, f2, f3⟩ := wf_fi w ht
  rw [stp_ap (by omega) (by omega), ap_45 z, ck_45 z]
  have lt0 := wf_ar w ht (Nat.le_refl _) (show bfi B t < bfi B (t + 1) by omega)
  have os := wf_so w (show bar B (bfi B t) < bma B by omega)
  obtain ⟨a1, a2, a3⟩ : arOk B v kn on (bar B (bfi B t)) := hA 0 (by omega)
  obtain ⟨b1, b2, b3⟩ := hA 1 (by omega)
  have fv : bful B t = bm (bso B (bar B (bfi B t)) % 128) := by
    have : 1 ≤ bso B (bar B (bfi B t)) % 128 := by unfold okS at os; omega
    rw [← y.2.2.2]
    exact bful_v (by omega) (by unfold okS at os; omega)
  by_cases e : kn (bar B (bfi B t + 1)) = bful B (bar B (bfi B t + 1))
  · rw [if_pos e, ag_all b1 e b3]
    unfold cel
    rw [if_neg (by omega), ← fv, and_F]
    exact ⟨snd_shr a1, and_F _ _⟩
  · rw [if_neg e]
    exact ok_0 _
theorem ok_sto (w : wfB B) (ht : t < bma B) (hA : ∀ i, i < bfi B (t + 1) - bfi B t → arOk B v kn on (bar B (bfi B t + i))) (z : bop B t = 46) : tOk B (stp B S J v t) t (chk B kn on t) := by
  have y := ty_46 (wf_ty w ht) z
  obtain ⟨f1, f2, f3⟩ := wf_fi w ht
  rw [stp_ap (by omega) (by omega), ap_46 z, ck_46 z]
  have lt0 := wf_ar w ht (Nat.le_refl _) (show bfi B t < bfi B (t + 1) by omega)
  have os := wf_so w (show bar B (bfi B t) < bma B by omega)
  obtain ⟨a1, a2, a3⟩ : arOk B v kn on (bar B (bfi B t)) := hA 0 (by omega)
  obtain ⟨b1, b2, b3⟩ := hA 1 (by omega)
  obtain ⟨c1, c2, c3⟩ := hA 2 (by omega)
  have o2 : 1 ≤ bso B (bar B (bfi B t)) % 128 ∧ bso B (bar B (bfi B t)) % 128 ≤ 64 := by unfold okS at os; omega
  have fv : bful B (bar B (bfi B t + 2)) = bm (bso B (bar B (bfi B t)) % 128) := by
    rw [← y.2.2.2.1]
    exact bful_v (by omega) (by omega)
  rw [fv] at c2 c3
  rw [bful_eq (show bso B (bar B (bfi B t)) = bso B t by omega)] at a2
  by_cases e : kn (bar B (bfi B t + 1)) = bful B (bar B (bfi B t + 1))
  · rw [if_pos e, ag_all b1 e b3, fv, y.2.2.2.2]
    have s1 := snd_store (s := csh (bso B (bar B (bfi B t))) (v (bar B (bfi B t + 1))).toNat) a1 c1 c3 c2
    have s2 : ((kn (bar B (bfi B t)) &&& ~~~ (bm (bso B (bar B (bfi B t)) % 128) <<< csh (bso B (bar B (bfi B t))) (v (bar B (bfi B t + 1))).toNat)) ||| (kn (bar B (bfi B t + 2)) <<< csh (bso B (bar B (bfi B t))) (v (bar B (bfi B t + 1))).toNat)) &&& bful B t = (kn (bar B (bfi B t)) &&& ~~~ (bm (bso B (bar B (bfi B t)) % 128) <<< csh (bso B (bar B (bfi B t))) (v (bar B (bfi B t + 1))).toNat)) ||| (kn (bar B (bfi B t + 2)) <<< csh (bso B (bar B (bfi B t))) (v (bar B (bfi B t + 1))).toNat) := by
      refine sub_bits (fun i hi hb => ?_)
      simp only [BitVec.getLsbD_or, BitVec.getLsbD_and, BitVec.getLsbD_shiftLeft, Bool.or_eq_true, Bool.and_eq_true] at hb
      rcases hb with hb | hb
      · exact bits_sub a2 hb.1
      · have := bits_sub c2 hb.2
        rw [bm_bit] at this
        simp at this
        have cw := csh_w (c := (v (bar B (bfi B t + 1))).toNat) y.2.1 os
        unfold bful
        rw [bm_bit, y.2.2.2.2]
        simp
        simp at hb
        omega
    exact ⟨snd_cut s1 s2, s2⟩
  · rw [if_neg e]
    exact ok_0 _
/-- what the Checker works out of what it knows of the arguments is right -/
theorem chk_ok (w : wfB B) (ht : t < bma B) (h7 : bop B t ≠ 47) (hA : ∀ i, i < bfi B (t + 1) - bfi B t → arOk B v kn on (bar B (bfi B t + i))) : tOk B (stp B S J v t) t (chk B kn on t) := by
  have ho := typ_op (wf_ty w ht)
  by_cases e1 : bop B t = 48
  · exact ok_const e1 w ht
  by_cases e2 : bop B t = 10 ∨ bop B t = 11 ∨ bop B t = 12 ∨ bop B t = 22 ∨ bop B t = 13 ∨ bop B t = 21
  · exact ok_one w ht hA e2
  by_cases e3 : bop B t = 14 ∨ bop B t = 15 ∨ bop B t = 16 ∨ bop B t = 17 ∨ bop B t = 23 ∨ bop B t = 24 ∨ bop B t = 25 ∨ bop B t = 26 ∨ bop B t = 27
  · exact ok_many w ht hA e3
  by_cases e4 : bop B t = 18
  · exact ok_ite w ht hA e4
  by_cases e5 : bop B t = 19
  · exact ok_eq w ht hA e5
  by_cases e6 : bop B t = 20
  · exact ok_ds w ht hA e6
  by_cases e7 : bop B t = 28
  · exact ok_sub w ht hA e7
  by_cases e8 : bop B t = 29 ∨ bop B t = 30 ∨ bop B t = 31 ∨ bop B t = 32
  · exact ok_div w ht hA e8
  by_cases e9 : bop B t = 33 ∨ bop B t = 34 ∨ bop B t = 35
  · exact ok_shift w ht hA e9
  by_cases e10 : 36 ≤ bop B t ∧ bop B t ≤ 43
  · exact ok_cmp w ht hA e10
  by_cases e11 : bop B t = 44
  · exact ok_cat w ht hA e11
  by_cases e12 : bop B t = 45
  · exact ok_sel w ht hA e12
  · exact ok_sto w ht hA (by omega)
end OK7
