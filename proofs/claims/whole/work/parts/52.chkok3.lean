section OK3
variable {B : Bk} {kn on v : Nat → BitVec 64} {t S J : Nat}
theorem and_F (x F : BitVec 64) : x &&& F &&& F = x &&& F := by rw [BitVec.and_assoc, BitVec.and_self]
theorem ok_0 (x : BitVec 64) : tOk B x t (0#64, 0#64) := by
  refine ⟨?_, ?_⟩
  · show x &&& 0#64 = 0#64 &&& 0#64
    simp
  · show 0#64 &&& _ = 0#64
    simp
theorem ok_full {x y : BitVec 64} (h : x = y) : tOk B (x &&& bful B t) t (bful B t, y) := by
  refine ⟨?_, BitVec.and_self⟩
  show x &&& bful B t &&& bful B t = y &&& bful B t
  rw [and_F, h]
/-- one argument -/
theorem ok_one (w : wfB B) (ht : t < bma B) (hA : ∀ i, i < bfi B (t + 1) - bfi B t → arOk B v kn on (bar B (bfi B t + i))) (z : bop B t = 10 ∨ bop B t = 11 ∨ bop B t = 12 ∨ bop B t = 22 ∨ bop B t = 13 ∨ bop B t = 21) : tOk B (stp B S J v t) t (chk B kn on t) := by
  have ty := wf_ty w ht
  rw [stp_ap (by omega) (by omega)]
  rcases z with z | z | z | z | z | z
  · have y := ty_10 ty z
    obtain ⟨a1, a2, a3⟩ := hA 0 (by omega)
    rw [ap_10 z, ck_10 z]
    exact ⟨snd_shr a1, and_F _ _⟩
  · have y := ty_11 ty z
    obtain ⟨a1, a2, a3⟩ := hA 0 (by omega)
    have e1 : bful B (bar B (bfi B t)) = bm (bso B (bar B (bfi B t))) := bful_v (by omega) (by omega)
    have e2 : bful B t = bm (bso B t) := bful_v (by omega) (by omega)
    have e3 : kn (bar B (bfi B t)) &&& bful B t = kn (bar B (bfi B t)) := by
      refine sub_bits (fun i hi hb => ?_)
      have := bits_sub a2 hb
      rw [show bar B (bfi B t + 0) = bar B (bfi B t) from rfl, e1, bm_bit] at this
      simp at this
      rw [e2, bm_bit]
      simp
      omega
    rw [ap_11 z, ck_11 z]
    refine ⟨snd_zext a1 a3 e3, sub_bits (fun i hi hb => ?_)⟩
    simp only [BitVec.getLsbD_or, BitVec.getLsbD_and, Bool.or_eq_true, Bool.and_eq_true] at hb
    rcases hb with hb | hb
    · exact bits_sub e3 hb
    · exact hb.1
  · have y := ty_12 ty z
    obtain ⟨a1, a2, a3⟩ := hA 0 (by omega)
    rw [ap_12 z, ck_12 z]
    exact ⟨snd_sext (by omega) (by omega) a1, and_F _ _⟩
  · have y := ty_22 ty z
    obtain ⟨a1, a2, a3⟩ := hA 0 (by omega)
    have e2 : bful B (bar B (bfi B t)) = bful B t := bful_eq y.2.1
    have a2' : kn (bar B (bfi B t)) &&& bful B t = kn (bar B (bfi B t)) := by rw [← e2]; exact a2
    rw [ap_22 z, ck_22 z]
    exact ⟨snd_run (bful_v y.2.2.1 y.2.2.2) y.2.2.2 (fun j hj hb => cg_neg hj (cg_bits.mpr (fun i hi => ag_k a1 (hb i hi)))) a2', lrun_sub a2'⟩
  · have y := ty_13 ty z
    obtain ⟨a1, a2, a3⟩ := hA 0 (by omega)
    have a2' : kn (bar B (bfi B t)) &&& bful B t = kn (bar B (bfi B t)) := by rw [← bful_eq (show bso B (bar B (bfi B t)) = bso B t by omega)]; exact a2
    rw [ap_13 z, ck_13 z]
    exact ⟨snd_not a1 a2', a2'⟩
  · have y := ty_21 ty z
    obtain ⟨a1, a2, a3⟩ := hA 0 (by omega)
    have a2' : kn (bar B (bfi B t)) &&& bful B t = kn (bar B (bfi B t)) := by rw [← bful_eq (show bso B (bar B (bfi B t)) = bso B t by omega)]; exact a2
    rw [ap_21 z, ck_21 z]
    exact ⟨snd_not a1 a2', a2'⟩
end OK3
