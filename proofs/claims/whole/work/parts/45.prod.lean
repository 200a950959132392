/-! products -/
def bcL (a : Int64) : Int32 :=
  let x1 := a - ((jlushr a 1) &&& 6148914691236517205)
  let x2 := (x1 &&& 3689348814741910323) + ((jlushr x1 2) &&& 3689348814741910323)
  let x3 := (x2 + (jlushr x2 4)) &&& 1085102592571150095
  let x4 := x3 + (jlushr x3 8)
  let x5 := x4 + (jlushr x4 16)
  let x6 := x5 + (jlushr x5 32)
  x6.toInt32 &&& 127
theorem bcL_bm : ∀ j, j ≤ 64 → bcL (jL (bm j)) = nI j := by
  have h : ∀ j, j < 65 → bcL (jL (bm j)) = nI j := by decide +kernel
  exact fun j hj => h j (by omega)
section PROD
variable {Q : xO → xS → Prop} {σ : xS} {B : Bk} {kn on : Nat → BitVec 64} {t : Nat}
theorem p_bitCountL {a : Int64} (k : Q (.inl (some (.int (bcL a)))) σ) : wp_Long_bitCount Q σ a := by
  intro x1 e1 x2 e2 x3 e3 x4 e4 x5 e5 x6 e6
  subst e1 e2 e3 e4 e5 e6
  exact k
theorem p_bitCount {j : Nat} (hj : j ≤ 64) (k : Q (.inl (some (.int (nI j)))) σ) : wp_Long_bitCount Q σ (jL (bm j)) := p_bitCountL (by rw [bcL_bm j hj]; exact k)
/-- how long the lowest run is -/
theorem lr_ex (a : BitVec 64) : ∃ j, j ≤ 64 ∧ lrun a = bm j := by
  obtain ⟨j, h1, h2, -⟩ := lrun_spec a
  exact ⟨j, h1, h2⟩
noncomputable def lr (a : BitVec 64) : Nat := (lr_ex a).choose
theorem lr_le (a : BitVec 64) : lr a ≤ 64 := (lr_ex a).choose_spec.1
theorem lr_bm (a : BitVec 64) : lrun a = bm (lr a) := (lr_ex a).choose_spec.2
theorem bm_inj {a b : Nat} (ha : a ≤ 64) (hb : b ≤ 64) (h : bm a = bm b) : a = b := by
  have h1 := congrArg BitVec.toNat h
  rw [bm_nat ha, bm_nat hb] at h1
  have p1 := Nat.two_pow_pos a
  have p2 := Nat.two_pow_pos b
  have e : 2 ^ a = 2 ^ b := by omega
  rcases Nat.lt_trichotomy a b with q | q | q
  · have := Nat.pow_lt_pow_right (a := 2) (by decide) q; omega
  · exact q
  · have := Nat.pow_lt_pow_right (a := 2) (by decide) q; omega
theorem lr_bits (a : BitVec 64) : (∀ i, i < lr a → a.getLsbD i = true) ∧ (lr a < 64 → a.getLsbD (lr a) = false) := by
  obtain ⟨j, h1, h2, h3, h4⟩ := lrun_spec a
  have : lr a = j := bm_inj (lr_le a) h1 (by rw [← lr_bm, h2])
  rw [this]
  exact ⟨h3, h4⟩
end PROD
