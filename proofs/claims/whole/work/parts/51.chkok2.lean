section OK2
variable {B : Bk} {kn on v : Nat → BitVec 64} {t S J : Nat}
theorem lrun_sub {k f : BitVec 64} (h : k &&& f = k) : lrun k &&& f = lrun k := by
  obtain ⟨j, h1, h2, h3, -⟩ := lrun_spec k
  rw [h2]
  refine sub_bits (fun i hi hb => ?_)
  rw [bm_bit] at hb
  simp at hb
  exact bits_sub h (h3 i hb.1)
theorem ei_sub (r : Bool × Bool) : (eiK r).1 &&& 1#64 = (eiK r).1 := by
  unfold eiK
  cases r.1 <;> cases r.2 <;> decide
theorem eqK_1 {s o : Nat → Bool} : ∀ n, (eqK s o n).1 = true ↔ ∀ i, i < n → s i = true
  | 0 => by simp [eqK]
  | n + 1 => by
    simp only [eqK, Bool.and_eq_true, eqK_1 n]
    exact ⟨fun h => lt_s h.1 h.2, fun h => ⟨fun i hi => h i (by omega), h n (by omega)⟩⟩
theorem eqK_2 {s o : Nat → Bool} : ∀ n, (eqK s o n).2 = true ↔ ∃ i, i < n ∧ o i = true
  | 0 => by simp [eqK]
  | n + 1 => by
    simp only [eqK, Bool.or_eq_true, eqK_2 n]
    constructor
    · rintro (⟨i, h1, h2⟩ | h)
      · exact ⟨i, by omega, h2⟩
      · exact ⟨n, by omega, h⟩
    · rintro ⟨i, h1, h2⟩
      by_cases e : i = n
      · subst e; exact Or.inr h2
      · exact Or.inl ⟨i, by omega, h2⟩
theorem dsR_1 {s o : Nat → Bool} {p : Bool × Bool} : ∀ n, (dsR s o p n).1 = true ↔ p.1 = true ∨ ∃ j, j < n ∧ s j = true
  | 0 => by simp [dsR]
  | n + 1 => by
    simp only [dsR, Bool.or_eq_true, dsR_1 n]
    constructor
    · rintro ((h | ⟨i, h1, h2⟩) | h)
      · exact Or.inl h
      · exact Or.inr ⟨i, by omega, h2⟩
      · exact Or.inr ⟨n, by omega, h⟩
    · rintro (h | ⟨i, h1, h2⟩)
      · exact Or.inl (Or.inl h)
      · by_cases e : i = n
        · subst e; exact Or.inr h2
        · exact Or.inl (Or.inr ⟨i, by omega, h2⟩)
theorem dsR_2 {s o : Nat → Bool} {p : Bool × Bool} : ∀ n, (dsR s o p n).2 = true ↔ p.2 = true ∧ ∀ j, j < n → o j = true
  | 0 => by simp [dsR]
  | n + 1 => by
    simp only [dsR, Bool.and_eq_true, dsR_2 n]
    exact ⟨fun h => ⟨h.1.1, lt_s h.1.2 h.2⟩, fun h => ⟨⟨h.1, fun i hi => h.2 i (by omega)⟩, h.2 n (by omega)⟩⟩
theorem dsK_1 {s o : Nat → Nat → Bool} : ∀ n, (dsK s o n).1 = true ↔ ∃ i, i < n + 1 ∧ ∃ j, j < i ∧ s i j = true
  | 0 => by
    constructor
    · intro h
      exact absurd h (by simp [dsK])
    · rintro ⟨i, h1, j, h2, _⟩
      omega
  | n + 1 => by
    simp only [dsK, dsR_1, dsK_1 n]
    constructor
    · rintro (⟨i, h1, h2⟩ | ⟨j, h1, h2⟩)
      · exact ⟨i, by omega, h2⟩
      · exact ⟨n + 1, by omega, j, h1, h2⟩
    · rintro ⟨i, h1, j, h2, h3⟩
      by_cases e : i = n + 1
      · subst e; exact Or.inr ⟨j, h2, h3⟩
      · exact Or.inl ⟨i, by omega, j, h2, h3⟩
theorem dsK_2 {s o : Nat → Nat → Bool} : ∀ n, (dsK s o n).2 = true ↔ ∀ i, i < n + 1 → ∀ j, j < i → o i j = true
  | 0 => ⟨fun _ i h1 j h2 => by omega, fun _ => rfl⟩
  | n + 1 => by
    simp only [dsK, dsR_2, dsK_2 n]
    exact ⟨fun h => lt_s h.1 h.2, fun h => ⟨fun i hi => h i (by omega), h (n + 1) (by omega)⟩⟩
end OK2
