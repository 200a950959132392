/-! WHAT THE PARSER LEAVES -/
def od (c : Nat → Nat) (l i : Nat) : Nat := (pos c l i).2
theorem tk2_cs {c : Nat → Nat} {l f o : Nat} (hf : f ≤ l) : ((tk2 c l f o).1.1 = 19 ∧ (tk2 c l f o).1.2.2.2 = none) ∨ ((tk2 c l f o).1.1 = 0 ∧ (tk2 c l f o).2.2 = o + 1 ∧ o < 70060 ∧ (tk2 c l f o).1.2.2.2 = none) ∨ ((tk2 c l f o).1.1 = 26 ∧ (tk2 c l f o).1.2.2.2 = none) ∨ ((tk2 c l f o).1.1 = 1 ∧ (tk2 c l f o).2.2 = o - 1 ∧ (tk2 c l f o).1.2.2.2 = none) ∨ ((tk2 c l f o).1.1 = 17 ∧ (tk2 c l f o).1.2.2.2 = none) ∨
    ((tk2 c l f o).1.1 = kow c (tk2 c l f o).1.2.1 (tk2 c l f o).1.2.2.1 ∧ (tk2 c l f o).2.2 = o ∧ (tk2 c l f o).1.2.2.2 = (if kow c (tk2 c l f o).1.2.1 (tk2 c l f o).1.2.2.1 = 5 then rsv (wtx c (tk2 c l f o).1.2.1 (tk2 c l f o).1.2.2.1) else none) ∧ (tk2 c l f o).1.2.1 < (tk2 c l f o).1.2.2.1 ∧ (tk2 c l f o).1.2.2.1 ≤ l ∧ ∀ i, (tk2 c l f o).1.2.1 ≤ i → i < (tk2 c l f o).1.2.2.1 → isW (c i) = true) := by
  have w := wnd_le (c := c) (l - f) f hf
  unfold tk2
  split
  · exact .inl ⟨rfl, rfl⟩
  · split
    · by_cases h : o < 70060
      · rw [if_pos h]; exact .inr (.inl ⟨rfl, rfl, h, rfl⟩)
      · rw [if_neg h]; exact .inr (.inr (.inl ⟨rfl, rfl⟩))
    · split
      · exact .inr (.inr (.inr (.inl ⟨rfl, rfl, rfl⟩)))
      · split
        · exact .inr (.inr (.inr (.inr (.inl ⟨rfl, rfl⟩))))
        · rename_i z
          exact .inr (.inr (.inr (.inr (.inr ⟨rfl, rfl, rfl, by show f < wnd c l (l - f) f; omega, w.2.1, w.2.2⟩))))
section TOKF
variable {c : Nat → Nat} {l i : Nat}
theorem tok_cs : (tK c l i = 19 ∧ tR c l i = none) ∨ (tK c l i = 0 ∧ od c l (i + 1) = od c l i + 1 ∧ od c l i < 70060 ∧ tR c l i = none) ∨ (tK c l i = 26 ∧ tR c l i = none) ∨ (tK c l i = 1 ∧ od c l (i + 1) = od c l i - 1 ∧ tR c l i = none) ∨ (tK c l i = 17 ∧ tR c l i = none) ∨ (tK c l i = kow c (tF c l i) (tE c l i) ∧ od c l (i + 1) = od c l i ∧ tR c l i = (if kow c (tF c l i) (tE c l i) = 5 then rsv (wtx c (tF c l i) (tE c l i)) else none) ∧ tF c l i < tE c l i ∧ tE c l i ≤ l ∧ ∀ k, tF c l i ≤ k → k < tE c l i → isW (c k) = true) :=
  tk2_cs (skp_le (c := c) (l - (pos c l i).1) false (pos c l i).1 (pos_le (c := c) (l := l) i)).2
theorem tok_0 (h : tK c l i = 0) : od c l (i + 1) = od c l i + 1 ∧ od c l i < 70060 ∧ tR c l i = none := by
  rcases tok_cs (c := c) (l := l) (i := i) with q | q | q | q | q | q
  · omega
  · exact q.2
  · omega
  · omega
  · omega
  · have := kow_cs c (tF c l i) (tE c l i); omega
theorem tok_1 (h : tK c l i = 1) : od c l (i + 1) = od c l i - 1 ∧ tR c l i = none := by
  rcases tok_cs (c := c) (l := l) (i := i) with q | q | q | q | q | q
  · omega
  · omega
  · omega
  · exact q.2
  · omega
  · have := kow_cs c (tF c l i) (tE c l i); omega
theorem tok_2 (h1 : 2 ≤ tK c l i) (h2 : tK c l i < 16) : tK c l i = kow c (tF c l i) (tE c l i) ∧ od c l (i + 1) = od c l i ∧ tR c l i = (if kow c (tF c l i) (tE c l i) = 5 then rsv (wtx c (tF c l i) (tE c l i)) else none) ∧ tF c l i < tE c l i ∧ tE c l i ≤ l ∧ ∀ k, tF c l i ≤ k → k < tE c l i → isW (c k) = true := by
  rcases tok_cs (c := c) (l := l) (i := i) with q | q | q | q | q | q
  · omega
  · omega
  · omega
  · omega
  · omega
  · exact q
theorem tok_R {n : Nat} (h : tR c l i = some n) : tK c l i = 5 ∧ n < 47 ∧ rws n = tW c l i := by
  rcases tok_cs (c := c) (l := l) (i := i) with q | q | q | q | q | q
  · rw [q.2] at h; cases h
  · rw [q.2.2.2] at h; cases h
  · rw [q.2] at h; cases h
  · rw [q.2.2] at h; cases h
  · rw [q.2] at h; cases h
  · rw [q.2.2.1] at h
    by_cases e : kow c (tF c l i) (tE c l i) = 5
    · rw [if_pos e] at h
      have := rsv_lt h
      exact ⟨q.1.trans e, this.1, this.2⟩
    · rw [if_neg e] at h; cases h
theorem tok_5 (h : tK c l i < 16) : tK c l i ≤ 5 := by
  rcases tok_cs (c := c) (l := l) (i := i) with q | q | q | q | q | q
  · omega
  · omega
  · omega
  · omega
  · omega
  · have := kow_cs c (tF c l i) (tE c l i); omega
theorem tW_len : (tW c l i).length = tE c l i - tF c l i := wtx_len _ _ _
theorem tW_at {k : Nat} (h : k < (tW c l i).length) : (tW c l i).getD k 0 = c (tF c l i + k) := by
  rw [tW_len] at h
  exact wtx_at h
theorem tok_5w (hc : ∀ k, k < l → c k < 256) (h : tK c l i = 5) : ∀ k, k < (tW c l i).length → (tW c l i).getD k 0 < 128 := by
  intro k hk
  have t := tok_2 (c := c) (l := l) (i := i) (by omega) (by omega)
  rw [tW_at hk]
  rw [tW_len] at hk
  exact (isW_lt (hc _ (by omega)) (t.2.2.2.2.2 _ (by omega) (by omega))).1
/-- a constant's digits -/
theorem tok_34 (h : tK c l i = 3 ∨ tK c l i = 4) : tF c l i + 3 ≤ tE c l i ∧ (tK c l i = 3 → tE c l i ≤ tF c l i + 66 ∧ alD c 2 (tF c l i + 2) (tE c l i) = true) ∧ (tK c l i = 4 → tE c l i ≤ tF c l i + 18 ∧ alD c 16 (tF c l i + 2) (tE c l i) = true) := by
  have t := (tok_2 (c := c) (l := l) (i := i) (by omega) (by omega)).1
  rw [t] at h ⊢
  generalize tF c l i = p at h ⊢
  generalize tE c l i = q at h ⊢
  unfold kow at h ⊢
  by_cases a : dig (c p) = true
  · rw [if_pos a] at h ⊢
    split at h <;> omega
  · rw [if_neg a] at h ⊢
    by_cases b : c p ≠ 35
    · rw [if_pos b] at h; omega
    · rw [if_neg b] at h ⊢
      by_cases d : q < p + 3
      · rw [if_pos d] at h; omega
      · rw [if_neg d] at h ⊢
        by_cases e : c (p + 1) = 98 ∧ q ≤ p + 66 ∧ alD c 2 (p + 2) q = true
        · rw [if_pos e] at h ⊢
          exact ⟨by omega, fun _ => e.2, fun x => by omega⟩
        · rw [if_neg e] at h ⊢
          by_cases g : c (p + 1) = 120 ∧ q ≤ p + 18 ∧ alD c 16 (p + 2) q = true
          · rw [if_pos g] at h ⊢
            exact ⟨by omega, fun x => by omega, fun _ => g.2⟩
          · rw [if_neg g] at h; omega
end TOKF
/-! parts of the parser -/
section PP
variable {c : Nat → Nat} {l N i : Nat}
def okN (c : Nat → Nat) (l N : Nat) : Prop := N ≤ 65536 ∧ l ≤ 65536 ∧ (∀ k, k < l → c k < 256) ∧ (∀ j, j < N → tK c l j < 16) ∧ 16 ≤ tK c l N
theorem okN.lt (h : okN c l N) (hi : i ≤ N) (g : tK c l i < 16) : i < N := by
  apply Classical.byContradiction
  intro n
  have : i = N := by omega
  rw [this] at g
  have := h.2.2.2.2
  omega
theorem okN.o (h : okN c l N) (hi : i ≤ N) : 1 ≤ od c l i ∧ od c l i ≤ 70060 := by
  have : od c l i ≤ 70000 + i ∧ 70000 ≤ od c l i + i := pos_o (c := c) (l := l) i
  have n := h.1
  exact ⟨by omega, pos_o60 i (fun k hk => h.2.2.2.1 k (by omega))⟩
theorem pX_i {k : Nat} {u : Unit} (h : pX c l i k = .ok u) : tK c l i = k := by
  unfold pX at h
  split at h
  · assumption
  · cases h
theorem pXR_i {r : Nat} {u : Unit} (h : pXR c l i r = .ok u) : tR c l i = some r := by
  unfold pXR at h
  split at h
  · assumption
  · cases h
theorem pN_i {lo hi v : Nat} (h : pN c l i lo hi = .ok v) : tK c l i = 2 ∧ lo ≤ v ∧ v ≤ hi ∧ v = num (tW c l i) := by
  unfold pN at h
  split at h
  · rename_i a
    split at h
    · rename_i b
      cases h
      exact ⟨a, b.1, b.2, rfl⟩
    · cases h
  · cases h
theorem pWd_i {most w : Nat} (H : okN c l N) (hi : i ≤ N) (h : pWd c l i most = .ok w) : 1 ≤ w ∧ w ≤ most ∧ i + 2 < N ∧ od c l (i + 3) + 1 = od c l i := by
  unfold pWd at h
  obtain ⟨_, h1, h⟩ := eb_inv h
  obtain ⟨v, h2, h⟩ := eb_inv h
  obtain ⟨_, h3, h⟩ := eb_inv h
  cases h
  have a1 := tok_R (pXR_i h1)
  have b1 := H.lt hi (by omega)
  have a2 := pN_i h2
  have b2 := H.lt (i := i + 1) b1 (by omega)
  have a3 := pX_i h3
  have b3 := H.lt (i := i + 2) b2 (by omega)
  have t1 := (tok_2 (c := c) (l := l) (i := i) (by omega) (by omega)).2.1
  have t2 := (tok_2 (c := c) (l := l) (i := i + 1) (by omega) (by omega)).2.1
  have t3 := (tok_1 a3).1
  have o3 := H.o (i := i + 2) (by omega)
  rw [show i + 1 + 1 = i + 2 by omega] at t2
  rw [show i + 2 + 1 = i + 3 by omega] at t3
  exact ⟨a2.2.1, a2.2.2.1, b3, by omega⟩
theorem pSo_i {s k : Nat} (H : okN c l N) (hi : i ≤ N) (h : pSo c l i = .ok (s, k)) : okS s ∧ s < 1024 ∧ i ≤ k ∧ k < N ∧ od c l (k + 1) = od c l i := by
  unfold pSo at h
  by_cases a : tR c l i = some 3
  · rw [if_pos a] at h
    cases h
    have a1 := tok_R a
    have t1 := tok_2 (c := c) (l := l) (i := i) (by omega) (by omega)
    exact ⟨by unfold okS; omega, by decide, Nat.le_refl _, H.lt hi (by omega), t1.2.1⟩
  · rw [if_neg a] at h
    obtain ⟨_, h1, h⟩ := eb_inv h
    have a1 := pX_i h1
    have b1 := H.lt hi (by omega)
    have t1 := tok_0 a1
    by_cases b : tR c l (i + 1) = some 4
    · rw [if_pos b] at h
      have a2 := tok_R b
      have b2 := H.lt (i := i + 1) b1 (by omega)
      have t2 := tok_2 (c := c) (l := l) (i := i + 1) (by omega) (by omega)
      obtain ⟨w, h2, h⟩ := eb_inv h
      cases h
      have w2 := pWd_i H (i := i + 2) b2 h2
      refine ⟨by unfold okS; omega, by omega, by omega, by omega, ?_⟩
      show od c l (i + 5) = od c l i
      have := w2.2.2.2
      rw [show i + 2 + 3 = i + 5 by omega] at this
      have e := t2.2.1
      rw [show i + 1 + 1 = i + 2 by omega] at e
      omega
    · rw [if_neg b] at h
      obtain ⟨_, h2, h⟩ := eb_inv h
      obtain ⟨_, h3, h⟩ := eb_inv h
      obtain ⟨_, h4, h⟩ := eb_inv h
      obtain ⟨iw, h5, h⟩ := eb_inv h
      obtain ⟨_, h6, h⟩ := eb_inv h
      obtain ⟨_, h7, h⟩ := eb_inv h
      obtain ⟨w, h8, h⟩ := eb_inv h
      obtain ⟨_, h9, h⟩ := eb_inv h
      cases h
      have a2 := tok_R (pXR_i h2)
      have b2 := H.lt (i := i + 1) b1 (by omega)
      have t2 := (tok_2 (c := c) (l := l) (i := i + 1) (by omega) (by omega)).2.1
      have a3 := pX_i h3
      have b3 := H.lt (i := i + 2) b2 (by omega)
      have t3 := (tok_0 a3).1
      have a4 := tok_R (pXR_i h4)
      have b4 := H.lt (i := i + 3) b3 (by omega)
      have t4 := (tok_2 (c := c) (l := l) (i := i + 3) (by omega) (by omega)).2.1
      have w5 := pWd_i H (i := i + 4) b4 h5
      have o5 := w5.2.2.2
      have a6 := pX_i h6
      have b6 := H.lt (i := i + 7) (by omega) (by omega)
      have t6 := (tok_0 a6).1
      have a7 := tok_R (pXR_i h7)
      have b7 := H.lt (i := i + 8) b6 (by omega)
      have t7 := (tok_2 (c := c) (l := l) (i := i + 8) (by omega) (by omega)).2.1
      have w8 := pWd_i H (i := i + 9) b7 h8
      have o8 := w8.2.2.2
      have a9 := pX_i h9
      have b9 := H.lt (i := i + 12) (by omega) (by omega)
      have t9 := (tok_1 a9).1
      have o9 := H.o (i := i + 12) (by omega)
      have t1 := t1.1
      rw [show i + 1 + 1 = i + 2 by omega] at t2
      rw [show i + 2 + 1 = i + 3 by omega] at t3
      rw [show i + 3 + 1 = i + 4 by omega] at t4
      rw [show i + 4 + 3 = i + 7 by omega] at o5
      rw [show i + 7 + 1 = i + 8 by omega] at t6
      rw [show i + 8 + 1 = i + 9 by omega] at t7
      rw [show i + 9 + 3 = i + 12 by omega] at o8
      refine ⟨?_, by omega, by omega, b9, by omega⟩
      unfold okS
      omega
theorem pMk_i {B : Bk} {beg op so lo wt : Nat} {bits : BitVec 64} {as : List Nat} {r : Nat × Bk} (h : pMk B beg op so lo bits as wt = .ok r) : bma B < 2000 ∧ bwe B + wt ≤ 100000 ∧ r = (bma B, addT (wtB B (bwe B + wt)) op so lo bits as) := by
  unfold pMk at h
  split at h
  · cases h
  · split at h
    · cases h
    · cases h
      exact ⟨by omega, by omega, rfl⟩
end PP
