/-! THE REFERENCE READS: the book grows by names, things and assertions, and goes back -/
section RB2
variable {c : Nat → Nat} {l N : Nat} {B : Bk} {i j w t : Nat} {ws : List Nat} {σ σ' : xS} {Q : xO → xS → Prop}
theorem RR_N (R : RR B σ) (h23 : xi σ' 50 23 = nI (bna B + 1)) (h50 : ∀ j, j ∈ [11, 21, 27, 42, 44, 45] → xi σ' 50 j = xi σ 50 j) (h66 : ∀ n, n < bna B → xi σ' 66 n = xi σ 66 n ∧ xi σ' 67 n = xi σ 67 n) (z66 : xi σ' 66 (bna B) = nI (B.1 17 (bna B) + ws.length)) (z67 : xi σ' 67 (bna B) = nI t) (h68 : ∀ i, i < B.1 17 (bna B) → xi σ' 68 i = xi σ 68 i) (z68 : ∀ k, k < ws.length → xi σ' 68 (B.1 17 (bna B) + k) = nI (ws.getD k 0))
    (ho : ∀ k j, (56 ≤ k ∧ k ≤ 65) ∨ k = 69 ∨ k = 80 → xi σ' k j = xi σ k j) (hl : ∀ j, xl σ' 64 j = xl σ 64 j) : RR (addNm B ws t) σ' := by
  have ak : ∀ k j, k ≠ 5 ∧ k ≠ 16 ∧ k ≠ 17 ∧ k ≠ 18 → (addNm B ws t).1 k j = B.1 k j := fun k j h => aN_k h j
  have a4 : (addNm B ws t).1 5 4 = bna B + 1 := by rw [aN_5, if_pos rfl]
  have a5 : ∀ j, j ≠ 4 → (addNm B ws t).1 5 j = B.1 5 j := fun j h => by rw [aN_5, if_neg h]
  obtain ⟨⟨c1, c2, c3, c4, c5, c6, c7⟩, d1, d2, d3, d4, d5, d6⟩ := R
  refine ⟨⟨?_, ?_, ?_, ?_, ?_, ?_, ?_⟩, fun t ht => ?_, fun i hi => ?_, fun n hn => ?_, fun i hi => ?_, fun i hi => ?_, fun i hi => ?_⟩
  · rw [h50 11 (by decide), c1]; exact congrArg nI (ak 6 9 (by decide)).symm
  · rw [h50 21 (by decide), c2]
    show nI (B.1 9 (B.1 6 9)) = nI ((addNm B ws t).1 9 ((addNm B ws t).1 6 9))
    rw [ak 6 9 (by decide), ak 9 _ (by decide)]
  · rw [h23]; exact congrArg nI a4.symm
  · rw [h50 27 (by decide), c4]; exact congrArg nI (a5 10 (by decide)).symm
  · rw [h50 42 (by decide), c5]; exact congrArg nI (a5 8 (by decide)).symm
  · rw [h50 44 (by decide), c6]; exact congrArg nI (ak 6 10 (by decide)).symm
  · rw [h50 45 (by decide), c7]
    show nI (B.1 21 (B.1 5 8)) = nI ((addNm B ws t).1 21 ((addNm B ws t).1 5 8))
    rw [a5 8 (by decide), ak 21 _ (by decide)]
  · rename_i t0 
    have ht : t < B.1 6 9 := by rw [← ak 6 9 (by decide)]; exact ht
    show xi σ' 56 t = nI (opr ((addNm B ws t0).1 7 t)) ∧ xi σ' 57 t = nI ((addNm B ws t0).1 8 t / 128) ∧ xi σ' 58 t = nI ((addNm B ws t0).1 8 t % 128) ∧ xi σ' 59 t = nI ((addNm B ws t0).1 9 t) ∧ xi σ' 60 t = nI ((addNm B ws t0).1 9 (t + 1) - (addNm B ws t0).1 9 t) ∧ ((addNm B ws t0).1 7 t = 10 → xi σ' 62 t = nI ((addNm B ws t0).1 11 t)) ∧ ((addNm B ws t0).1 7 t = 48 → xl σ' 64 t = jL (B.2 t))
    rw [ak 7 _ (by decide), ak 8 _ (by decide), ak 9 _ (by decide), ak 9 _ (by decide), ak 11 _ (by decide), ho 56 t (by omega), ho 57 t (by omega), ho 58 t (by omega), ho 59 t (by omega), ho 60 t (by omega), ho 62 t (by omega), hl t]
    exact d1 t ht
  · have hi : i < B.1 9 (B.1 6 9) := by
      have z : i < (addNm B ws t).1 9 ((addNm B ws t).1 6 9) := hi
      rw [ak 6 9 (by decide), ak 9 _ (by decide)] at z
      exact z
    show _ = nI ((addNm B ws t).1 10 i)
    rw [ho 65 i (by omega), ak 10 _ (by decide)]
    exact d2 i hi
  · have hn : n < bna B + 1 := by rw [← a4]; exact hn
    rw [aN_17, aN_18]
    by_cases q : n = bna B
    · rw [if_pos (by omega), if_pos q, q]
      exact ⟨z66, z67⟩
    · rw [if_neg (by omega), if_neg q, (h66 n (by omega)).1, (h66 n (by omega)).2]
      exact d3 n (by omega)
  · have hi : i < B.1 17 (bna B) + ws.length := by
      have z : i < (addNm B ws t).1 17 ((addNm B ws t).1 5 4) := hi
      rw [a4, aN_17, if_pos rfl] at z
      exact z
    rw [aN_16]
    by_cases q : B.1 17 (bna B) ≤ i
    · have := z68 (i - B.1 17 (bna B)) (by omega)
      rw [show B.1 17 (bna B) + (i - B.1 17 (bna B)) = i by omega] at this
      rw [if_pos ⟨q, hi⟩]
      exact this
    · rw [if_neg (fun z => q z.1), h68 i (by omega)]
      exact d4 i (by omega)
  · have hi : i < B.1 5 10 := by rw [← a5 10 (by decide)]; exact hi
    show _ = nI ((addNm B ws t).1 22 i)
    rw [ho 69 i (by omega), ak 22 _ (by decide)]
    exact d5 i hi
  · have hi : i < B.1 5 8 := by rw [← a5 8 (by decide)]; exact hi
    show _ = nI ((addNm B ws t).1 19 i) ∧ xi σ' 63 ((addNm B ws t).1 19 i) = _
    rw [ho 80 i (by omega), ak 19 _ (by decide), ak 20 _ (by decide), ho 63 _ (by omega)]
    exact d6 i hi
/-- the name of a thing -/
theorem aNH {k j : Nat} (q1 : ¬ (k = 5 ∧ j = 8)) (q2 : ¬ ((k = 19 ∨ k = 20) ∧ j = bth B)) (q3 : ¬ (k = 21 ∧ j = bth B + 1)) : (addNm (addTh B t) ws t).1 k j = (addNm B ws t).1 k j := by
  have e4 : bna (addTh B t) = bna B := by show (addTh B t).1 5 4 = _; rw [aH_5, if_neg (by decide)]
  have e17 : ∀ j, (addTh B t).1 17 j = B.1 17 j := fun j => aH_k (by decide) j
  by_cases c5 : k = 5
  · rw [c5, aN_5, aN_5, e4]
    by_cases z : j = 4
    · rw [if_pos z, if_pos z]
    · rw [if_neg z, if_neg z, aH_5, if_neg (fun y => q1 ⟨c5, y⟩)]
  by_cases c16 : k = 16
  · rw [c16, aN_16, aN_16, e4, e17, aH_k (by decide)]
  by_cases c17 : k = 17
  · rw [c17, aN_17, aN_17, e4, e17, e17]
  by_cases c18 : k = 18
  · rw [c18, aN_18, aN_18, e4, aH_k (by decide)]
  rw [aN_k ⟨c5, c16, c17, c18⟩, aN_k ⟨c5, c16, c17, c18⟩]
  by_cases c19 : k = 19
  · rw [c19, aH_19, if_neg (fun y => q2 ⟨.inl c19, y⟩)]
  by_cases c20 : k = 20
  · rw [c20, aH_20, if_neg (fun y => q2 ⟨.inr c20, y⟩)]
  by_cases c21 : k = 21
  · rw [c21, aH_21, if_neg (fun y => q3 ⟨c21, y⟩)]
  exact aH_k ⟨c5, c19, c20, c21⟩ j
theorem RR_NH (R : RR (addNm B ws t) σ) (h42 : xi σ' 50 42 = nI (bth B + 1)) (h45 : xi σ' 50 45 = nI (bsz B + szs (bso B t))) (h50 : ∀ j, j ∈ [11, 21, 23, 27, 44] → xi σ' 50 j = xi σ 50 j) (z63 : xi σ' 63 t = nI (bna B)) (h63 : ∀ i, i < bth B → xi σ' 63 (btt B i) = xi σ 63 (btt B i)) (z80 : xi σ' 80 (bth B) = nI t) (h80 : ∀ i, i < bth B → xi σ' 80 i = xi σ 80 i)
    (ho : ∀ k j, (56 ≤ k ∧ k ≤ 62) ∨ (65 ≤ k ∧ k ≤ 69) → xi σ' k j = xi σ k j) (hl : ∀ j, xl σ' 64 j = xl σ 64 j) : RR (addNm (addTh B t) ws t) σ' := by
  have nk : ∀ k j, ¬ (k = 5 ∧ j = 8) → ¬ ((k = 19 ∨ k = 20) ∧ j = bth B) → ¬ (k = 21 ∧ j = bth B + 1) → (addNm (addTh B t) ws t).1 k j = (addNm B ws t).1 k j := fun k j q1 q2 q3 => aNH q1 q2 q3
  have o8 : (addNm B ws t).1 5 8 = bth B := by rw [aN_5, if_neg (by decide)]
  have n8 : (addNm (addTh B t) ws t).1 5 8 = bth B + 1 := by rw [aN_5, if_neg (by decide), aH_5, if_pos rfl]
  have n19 : (addNm (addTh B t) ws t).1 19 (bth B) = t := by rw [aN_k (by decide), aH_19, if_pos rfl]
  have n20 : (addNm (addTh B t) ws t).1 20 (bth B) = bna B := by rw [aN_k (by decide), aH_20, if_pos rfl]
  have n21 : (addNm (addTh B t) ws t).1 21 (bth B + 1) = bsz B + szs (bso B t) := by rw [aN_k (by decide), aH_21, if_pos rfl]
  have o19 : ∀ i, (addNm B ws t).1 19 i = btt B i := fun i => aN_k (by decide) i
  obtain ⟨⟨c1, c2, c3, c4, c5, c6, c7⟩, d1, d2, d3, d4, d5, d6⟩ := R
  have e69 : bma (addNm (addTh B t) ws t) = bma (addNm B ws t) := nk 6 9 (by omega) (by omega) (by omega)
  have e54 : bna (addNm (addTh B t) ws t) = bna (addNm B ws t) := nk 5 4 (by omega) (by omega) (by omega)
  have e510 : bas (addNm (addTh B t) ws t) = bas (addNm B ws t) := nk 5 10 (by omega) (by omega) (by omega)
  have e9 : ∀ j, bfi (addNm (addTh B t) ws t) j = bfi (addNm B ws t) j := fun j => nk 9 j (by omega) (by omega) (by omega)
  refine ⟨⟨?_, ?_, ?_, ?_, ?_, ?_, ?_⟩, fun t' ht => ?_, fun i hi => ?_, fun n hn => ?_, fun i hi => ?_, fun i hi => ?_, fun i hi => ?_⟩
  · rw [h50 11 (by decide), c1, e69]
  · rw [h50 21 (by decide), c2, e69, e9]
  · rw [h50 23 (by decide), c3, e54]
  · rw [h50 27 (by decide), c4, e510]
  · rw [h42]; exact congrArg nI n8.symm
  · rw [h50 44 (by decide), c6]; exact congrArg nI (nk 6 10 (by omega) (by omega) (by omega)).symm
  · rw [h45]
    show _ = nI ((addNm (addTh B t) ws t).1 21 ((addNm (addTh B t) ws t).1 5 8))
    rw [n8, n21]
  · rw [e69] at ht
    rw [e9, e9, show bop (addNm (addTh B t) ws t) t' = bop (addNm B ws t) t' from nk 7 t' (by omega) (by omega) (by omega), show bso (addNm (addTh B t) ws t) t' = bso (addNm B ws t) t' from nk 8 t' (by omega) (by omega) (by omega), show blo (addNm (addTh B t) ws t) t' = blo (addNm B ws t) t' from nk 11 t' (by omega) (by omega) (by omega), ho 56 t' (by omega), ho 57 t' (by omega), ho 58 t' (by omega), ho 59 t' (by omega), ho 60 t' (by omega), ho 62 t' (by omega), hl t']
    exact d1 t' ht
  · rw [e69, e9] at hi
    rw [ho 65 i (by omega), show bar (addNm (addTh B t) ws t) i = bar (addNm B ws t) i from nk 10 i (by omega) (by omega) (by omega)]
    exact d2 i hi
  · rw [e54] at hn
    rw [ho 66 n (by omega), ho 67 n (by omega), nk 17 _ (by omega) (by omega) (by omega), nk 18 _ (by omega) (by omega) (by omega)]
    exact d3 n hn
  · rw [e54, nk 17 _ (by omega) (by omega) (by omega)] at hi
    rw [ho 68 i (by omega), nk 16 _ (by omega) (by omega) (by omega)]
    exact d4 i hi
  · rw [e510] at hi
    rw [ho 69 i (by omega), show bsd (addNm (addTh B t) ws t) i = bsd (addNm B ws t) i from nk 22 i (by omega) (by omega) (by omega)]
    exact d5 i hi
  · have hi : i < bth B + 1 := by rw [← n8]; exact hi
    show xi σ' 80 i = nI ((addNm (addTh B t) ws t).1 19 i) ∧ xi σ' 63 ((addNm (addTh B t) ws t).1 19 i) = nI ((addNm (addTh B t) ws t).1 20 i)
    by_cases q : i = bth B
    · rw [q, n19, n20]
      exact ⟨z80, z63⟩
    · have d := d6 i (by show i < (addNm B ws t).1 5 8; rw [o8]; omega)
      have d1' : xi σ 80 i = nI ((addNm B ws t).1 19 i) := d.1
      have d2' : xi σ 63 ((addNm B ws t).1 19 i) = nI ((addNm B ws t).1 20 i) := d.2
      rw [nk 19 i (by omega) (by omega) (by omega), nk 20 i (by omega) (by omega) (by omega), h80 i (by omega)]
      rw [o19] at d1' d2' ⊢
      rw [h63 i (by omega)]
      exact ⟨d1', d2'⟩
theorem RR_A (R : RR B σ) (h27 : xi σ' 50 27 = nI (bas B + 1)) (h50 : ∀ j, j ∈ [11, 21, 23, 42, 44, 45] → xi σ' 50 j = xi σ 50 j) (z69 : xi σ' 69 (bas B) = nI t) (h69 : ∀ i, i < bas B → xi σ' 69 i = xi σ 69 i)
    (ho : ∀ k j, (56 ≤ k ∧ k ≤ 68) ∨ k = 80 → xi σ' k j = xi σ k j) (hl : ∀ j, xl σ' 64 j = xl σ 64 j) : RR (addAs B t) σ' := by
  have ak : ∀ k j, k ≠ 5 ∧ k ≠ 22 → (addAs B t).1 k j = B.1 k j := fun k j h => aA_k h j
  have a10 : (addAs B t).1 5 10 = bas B + 1 := by rw [aA_5, if_pos rfl]
  have a5 : ∀ j, j ≠ 10 → (addAs B t).1 5 j = B.1 5 j := fun j h => by rw [aA_5, if_neg h]
  obtain ⟨⟨c1, c2, c3, c4, c5, c6, c7⟩, d1, d2, d3, d4, d5, d6⟩ := R
  have e69 : bma (addAs B t) = bma B := ak 6 9 (by decide)
  have e54 : bna (addAs B t) = bna B := a5 4 (by decide)
  have e9 : ∀ j, bfi (addAs B t) j = bfi B j := fun j => ak 9 j (by decide)
  refine ⟨⟨?_, ?_, ?_, ?_, ?_, ?_, ?_⟩, fun t' ht => ?_, fun i hi => ?_, fun n hn => ?_, fun i hi => ?_, fun i hi => ?_, fun i hi => ?_⟩
  · rw [h50 11 (by decide), c1, e69]
  · rw [h50 21 (by decide), c2, e69, e9]
  · rw [h50 23 (by decide), c3, e54]
  · rw [h27]; exact congrArg nI a10.symm
  · rw [h50 42 (by decide), c5]; exact congrArg nI (a5 8 (by decide)).symm
  · rw [h50 44 (by decide), c6]; exact congrArg nI (ak 6 10 (by decide)).symm
  · rw [h50 45 (by decide), c7]
    show nI (B.1 21 (B.1 5 8)) = nI ((addAs B t).1 21 ((addAs B t).1 5 8))
    rw [a5 8 (by decide), ak 21 _ (by decide)]
  · rw [e69] at ht
    rw [e9, e9, show bop (addAs B t) t' = bop B t' from ak 7 t' (by decide), show bso (addAs B t) t' = bso B t' from ak 8 t' (by decide), show blo (addAs B t) t' = blo B t' from ak 11 t' (by decide), ho 56 t' (by omega), ho 57 t' (by omega), ho 58 t' (by omega), ho 59 t' (by omega), ho 60 t' (by omega), ho 62 t' (by omega), hl t']
    exact d1 t' ht
  · rw [e69, e9] at hi
    rw [ho 65 i (by omega), show bar (addAs B t) i = bar B i from ak 10 i (by decide)]
    exact d2 i hi
  · rw [e54] at hn
    rw [ho 66 n (by omega), ho 67 n (by omega), ak 17 _ (by decide), ak 18 _ (by decide)]
    exact d3 n hn
  · rw [e54, ak 17 _ (by decide)] at hi
    rw [ho 68 i (by omega), ak 16 _ (by decide)]
    exact d4 i hi
  · have hi : i < bas B + 1 := by rw [← a10]; exact hi
    show _ = nI ((addAs B t).1 22 i)
    rw [aA_22]
    by_cases q : i = bas B
    · rw [if_pos q, q]; exact z69
    · rw [if_neg q, h69 i (by omega)]; exact d5 i (by omega)
  · have hi : i < B.1 5 8 := by rw [← a5 8 (by decide)]; exact hi
    show _ = nI ((addAs B t).1 19 i) ∧ xi σ' 63 ((addAs B t).1 19 i) = _
    rw [ho 80 i (by omega), ak 19 _ (by decide), ak 20 _ (by decide), ho 63 _ (by omega)]
    exact d6 i hi
/-- the smaller book is still there -/
theorem RR.back {B' : Bk} (R : RR B' σ) (g : gB B) (x : bex B B') (h : xi σ' 50 11 = nI (bma B) ∧ xi σ' 50 21 = nI (bfi B (bma B)) ∧ xi σ' 50 23 = nI (bna B) ∧ xi σ' 50 27 = nI (bas B) ∧ xi σ' 50 42 = nI (bth B) ∧ xi σ' 50 44 = nI (bwe B) ∧ xi σ' 50 45 = nI (bsz B)) (ho : ∀ k j, (56 ≤ k ∧ k ≤ 69) ∨ k = 80 → xi σ' k j = xi σ k j) (hl : ∀ j, xl σ' 64 j = xl σ 64 j) : RR B σ' := by
  obtain ⟨-, d1, d2, d3, d4, d5, d6⟩ := R
  have xk := x.1
  refine ⟨h, fun t ht => ?_, fun i hi => ?_, fun n hn => ?_, fun i hi => ?_, fun i hi => ?_, fun i hi => ?_⟩
  · have d := d1 t (Nat.lt_of_lt_of_le ht x.ma)
    rw [show bop B' t = bop B t from xk 7 t ht, show bso B' t = bso B t from xk 8 t ht, show blo B' t = blo B t from xk 11 t ht, show bfi B' t = bfi B t from xk 9 t (Nat.lt_succ_of_lt ht), show bfi B' (t + 1) = bfi B (t + 1) from xk 9 (t + 1) (Nat.succ_lt_succ ht), x.2.1 t ht] at d
    rw [ho 56 t (by omega), ho 57 t (by omega), ho 58 t (by omega), ho 59 t (by omega), ho 60 t (by omega), ho 62 t (by omega), hl t]
    exact d
  · rw [ho 65 i (by omega), d2 i (Nat.lt_of_lt_of_le hi (x.2.2 10))]
    exact congrArg nI (xk 10 i hi)
  · have d := d3 n (Nat.lt_of_lt_of_le hn x.na)
    rw [xk 17 (n + 1) (Nat.succ_lt_succ hn), xk 18 n hn] at d
    rw [ho 66 n (by omega), ho 67 n (by omega)]
    exact d
  · rw [ho 68 i (by omega), d4 i (Nat.lt_of_lt_of_le hi (x.2.2 16))]
    exact congrArg nI (xk 16 i hi)
  · rw [ho 69 i (by omega), d5 i (Nat.lt_of_lt_of_le hi x.as)]
    exact congrArg nI (xk 22 i hi)
  · have d := d6 i (Nat.lt_of_lt_of_le hi x.th)
    rw [show btt B' i = btt B i from xk 19 i hi, xk 20 i hi] at d
    rw [ho 80 i (by omega), ho 63 _ (by omega)]
    exact d
def oM (σ σ' : xS) : Prop := (∀ a b, ¬ (a = 50 ∧ b = 23) → ¬ (66 ≤ a ∧ a ≤ 68) → xi σ' a b = xi σ a b) ∧ (∀ a b, xl σ' a b = xl σ a b) ∧ xb σ' = xb σ
theorem oM.S (h : oM σ σ') : oS σ σ' := ⟨fun a b q => h.1 a b (fun z => q (by unfold rcl; omega)) (fun z => q (by unfold rcl; omega)), fun a b _ => h.2.1 a b, h.2.2⟩
theorem r_addName (H : okN c l N) (T : RTB σ c l) (P : PR σ c l N) (R : RR B σ) (h0 : B.1 17 0 = 0) (hw : w ≤ N) (kw : tK c l w = 5) (hn : bna B < 500) (hr : B.1 17 (bna B) + (tW c l w).length ≤ 65536) (k : ∀ σ', RR (addNm B (tW c l w) t) σ' → oM σ σ' → Q (.inl (some (.int (nI (bna B))))) σ') : wp_VectorSolverModel_addName Q σ (nI w) (nI t) := by
  have n1 := H.1
  have l1 := H.2.1
  have tl := tW_len (c := c) (l := l) (i := w)
  have t2 := tok_2 (c := c) (l := l) (i := w) (by omega) (by omega)
  have vw : vp_in (nI w) 65537 := vp_in_nI (by omega) (by decide)
  have cw : (nI w).toNatClampNeg = w := nI_clamp (by omega)
  obtain ⟨p1, p2, p3, p4⟩ := P.t hw
  have nr : ∀ b, b < 128 → vp_nar .byte (nI b) = nI b := by decide +kernel
  have body : ∀ {Q' : xO → xS → Prop}, Q' (.inl (some (.int (nI (B.1 17 (bna B)))))) σ → wp_VectorSolverModel_used Q' σ := fun {Q'} q => by
    unfold wp_VectorSolverModel_used
    rw [R.1.2.2.1, show (0 : Int32) = nI 0 from rfl, nI_eq (by omega) (by decide)]
    refine ⟨fun z => ?_, fun z => ?_⟩
    · have e := (R.2.2.2.1 (bna B - 1) (by omega)).1
      rw [show bna B - 1 + 1 = bna B by omega] at e
      rw [show (1 : Int32) = nI 1 from rfl, nI_sub (by omega), nI_clamp (n := bna B - 1) (by omega), e]
      exact ⟨vp_in_nI (by omega) (by decide), q⟩
    · have e17 : B.1 17 (bna B) = 0 := by rw [z]; exact h0
      rw [e17] at q
      exact q
  unfold wp_VectorSolverModel_addName
  refine body ?_
  rw [xqi_i, cw, p2]
  refine ⟨vw, fun x3 e3 => ?_⟩
  subst e3
  have lp := loop_i (σ := xS) (fun m q s => w_VectorSolverModel_addName_13 Q m (nI w) (nI t) (nI (B.1 17 (bna B))) (nI (tF c l w + q)) s) (fun q s => (∀ a b, ¬ (a = 68 ∧ B.1 17 (bna B) ≤ b) → xi s a b = xi σ a b) ∧ (∀ k, k < q → xi s 68 (B.1 17 (bna B) + k) = nI (c (tF c l w + k))) ∧ (∀ a b, xl s a b = xl σ a b) ∧ xb s = xb σ) (tE c l w - tF c l w) (fun m s hI => ?_) (fun m q s hq hI hs => ?_)
  · exact ⟨_, lp (tE c l w - tF c l w + 1) 0 σ (by omega) (by omega) ⟨fun _ _ _ => rfl, fun k hk => absurd hk (by omega), fun _ _ => rfl, rfl⟩⟩
  · obtain ⟨j1, j2, j3, j4⟩ := hI
    unfold w_VectorSolverModel_addName_13
    rw [cw, j1 54 w (by omega), p3, j1 53 w (by omega), p2, j1 50 23 (by omega), R.1.2.2.1, nI_clamp (n := bna B) (by omega), nI_add, nI_sub (by omega)]
    refine ⟨vw, fun _ => ⟨vw, vw, vp_in_nI (by omega) (by decide), fun s4 e4 => ?_⟩, fun z => absurd ((nI_leI (by omega) (by omega)).mpr (by omega)) z⟩
    have y23 : xi s4 50 23 = nI (bna B) := by rw [e4, xi_pi, if_neg (by omega), j1 50 23 (by omega)]; exact R.1.2.2.1
    rw [y23, nI_clamp (n := bna B) (by omega)]
    refine ⟨vp_in_nI (by omega) (by decide), fun s5 e5 s6 e6 => ?_⟩
    have y23' : xi s5 50 23 = nI (bna B) := by rw [e5, xi_pi, if_neg (by omega)]; exact y23
    rw [y23', show (1 : Int32) = nI 1 from rfl, nI_add] at e6
    have z23 : xi s6 50 23 = nI (bna B + 1) := by rw [e6, xi_pi, if_pos ⟨rfl, rfl⟩]
    rw [z23, show (1 : Int32) = nI 1 from rfl, nI_sub (by omega), Nat.add_sub_cancel]
    have c6 : ∀ a b, ¬ (a = 50 ∧ b = 23) → ¬ ((a = 66 ∨ a = 67) ∧ b = bna B) → xi s6 a b = xi s a b := fun a b q1 q2 => by rw [e6, xi_pi, if_neg q1, e5, xi_pi, if_neg (by omega), e4, xi_pi, if_neg (by omega)]
    have l6 : ∀ a b, xl s6 a b = xl σ a b := fun a b => by rw [e6, xl_pi, e5, xl_pi, e4, xl_pi]; exact j3 a b
    refine k s6 (RR_N R z23 (fun j hj => ?_) (fun n hn' => ⟨?_, ?_⟩) ?_ ?_ (fun i hi => ?_) (fun k' hk' => ?_) (fun k' j hk' => ?_) (fun j => l6 64 j)) ⟨fun a b q1 q2 => ?_, l6, ?_⟩
    · have hj : j = 11 ∨ j = 21 ∨ j = 27 ∨ j = 42 ∨ j = 44 ∨ j = 45 := by simpa using hj
      rw [c6 50 j (by omega) (by omega), j1 50 j (by omega)]
    · rw [c6 66 n (by omega) (by omega), j1 66 n (by omega)]
    · rw [c6 67 n (by omega) (by omega), j1 67 n (by omega)]
    · rw [e6, xi_pi, if_neg (by omega), e5, xi_pi, if_neg (by omega), e4, xi_pi, if_pos ⟨rfl, rfl⟩, tl]
      exact congrArg nI (by omega)
    · rw [e6, xi_pi, if_neg (by omega), e5, xi_pi, if_pos ⟨rfl, rfl⟩]
    · rw [c6 68 i (by omega) (by omega), j1 68 i (by omega)]
    · rw [c6 68 _ (by omega) (by omega), j2 k' (by omega), tW_at hk']
    · rw [c6 k' j (by omega) (by omega), j1 k' j (by omega)]
    · rw [c6 a b q1 (by omega), j1 a b (by omega)]
    · rw [e6, e5, e4]; exact j4
  · obtain ⟨j1, j2, j3, j4⟩ := hI
    have bb := T.2.2 (tF c l w + q) (by omega)
    have tlt := tok_let H kw (show tF c l w ≤ tF c l w + q by omega) (by omega)
    have ix : (nI (B.1 17 (bna B)) + nI (tF c l w + q) - nI (tF c l w) : Int32) = nI (B.1 17 (bna B) + q) := by
      rw [nI_add, nI_sub (by omega), show B.1 17 (bna B) + (tF c l w + q) - tF c l w = B.1 17 (bna B) + q by omega]
    unfold w_VectorSolverModel_addName_13
    rw [cw, j1 54 w (by omega), p3, j1 53 w (by omega), p2, nI_leI (by omega) (by omega), ix, nI_clamp (n := tF c l w + q) (by omega), j1 51 _ (by omega), bb.2, sb_n tlt.1, nr _ tlt.1, nI_clamp (n := B.1 17 (bna B) + q) (by omega)]
    refine ⟨vw, fun z => absurd z (by omega), fun _ => ⟨vw, vp_in_nI (by omega) (by decide), vp_in_nI (by omega) (by decide), fun s7 e7 x8 e8 => ?_⟩⟩
    rw [show (1 : Int32) = nI 1 from rfl, nI_add] at e8
    subst e8
    refine hs s7 ⟨fun a b q1 => ?_, fun k' hk' => ?_, fun a b => ?_, ?_⟩
    · rw [e7, xi_pi, if_neg (by omega)]; exact j1 a b q1
    · rw [e7, xi_pi]
      by_cases e : k' = q
      · rw [if_pos ⟨rfl, by omega⟩, e]
      · rw [if_neg (by omega)]; exact j2 k' (by omega)
    · rw [e7, xl_pi]; exact j3 a b
    · rw [e7]; exact j4
end RB2
