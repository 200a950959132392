/-! THE BOOK GROWS -/
def kps (op lo : Nat) : Bool := if op = 10 then decide (lo = 0) else decide (op = 11 ∨ op = 12 ∨ op = 18 ∨ op = 21 ∨ op = 23 ∨ op = 24 ∨ op = 25)
def lwo (B : Bk) (as : List Nat) (t : Nat) : Nat := as.foldl (fun m a => if bop B a ≠ 47 ∧ blw B a < m then blw B a else m) t
def cao (B : Bk) (op lo : Nat) (as : List Nat) : Nat := as.foldl (fun m a => if nI (bca B a) ≠ 0 ∧ kps op lo = true then 1 else m) (if op = 22 ∨ op = 26 ∨ op = 27 ∨ op = 28 then 1 else 0)
def wtB (B : Bk) (w : Nat) : Bk := (fun a b => if a = 6 ∧ b = 10 then w else B.1 a b, B.2)
def addT (B : Bk) (op so lo : Nat) (bits : BitVec 64) (as : List Nat) : Bk :=
  (fun a b => if a = 6 ∧ b = 9 then bma B + 1
    else if a = 7 ∧ b = bma B then op
    else if a = 8 ∧ b = bma B then so
    else if a = 9 ∧ b = bma B + 1 then bfi B (bma B) + as.length
    else if a = 10 ∧ bfi B (bma B) ≤ b ∧ b < bfi B (bma B) + as.length then as.getD (b - bfi B (bma B)) 0
    else if a = 11 ∧ b = bma B then lo
    else if a = 14 ∧ b = bma B then lwo B as (bma B)
    else if a = 15 ∧ b = bma B then cao B op lo as
    else B.1 a b,
   fun t => if t = bma B then bits else B.2 t)
def addTh (B : Bk) (t : Nat) : Bk :=
  (fun a b => if a = 5 ∧ b = 8 then bth B + 1
    else if a = 19 ∧ b = bth B then t
    else if a = 20 ∧ b = bth B then bna B
    else if a = 21 ∧ b = bth B + 1 then bsz B + szs (bso B t)
    else B.1 a b, B.2)
def addNm (B : Bk) (w : List Nat) (t : Nat) : Bk :=
  (fun a b => if a = 5 ∧ b = 4 then bna B + 1
    else if a = 16 ∧ B.1 17 (bna B) ≤ b ∧ b < B.1 17 (bna B) + w.length then w.getD (b - B.1 17 (bna B)) 0
    else if a = 17 ∧ b = bna B + 1 then B.1 17 (bna B) + w.length
    else if a = 18 ∧ b = bna B then t
    else B.1 a b, B.2)
def addAs (B : Bk) (t : Nat) : Bk :=
  (fun a b => if a = 5 ∧ b = 10 then bas B + 1
    else if a = 22 ∧ b = bas B then t
    else B.1 a b, B.2)
theorem bk_cs {B : Bk} {k j : Nat} (h : j < bkB B k) : (k = 7 ∧ j < bma B) ∨ (k = 8 ∧ j < bma B) ∨ (k = 9 ∧ j < bma B + 1) ∨ (k = 10 ∧ j < bfi B (bma B)) ∨ (k = 11 ∧ j < bma B) ∨ (k = 14 ∧ j < bma B) ∨ (k = 15 ∧ j < bma B) ∨ (k = 16 ∧ j < B.1 17 (bna B)) ∨ (k = 17 ∧ j < bna B + 1) ∨ (k = 18 ∧ j < bna B) ∨ (k = 19 ∧ j < bth B) ∨ (k = 20 ∧ j < bth B) ∨ (k = 21 ∧ j < bth B + 1) ∨ (k = 22 ∧ j < bas B) := by
  unfold bkB at h
  split at h <;> first | omega | (simp only [true_and]; omega) | simp_all
section AT
variable {B : Bk} {op so lo : Nat} {bits : BitVec 64} {as : List Nat} {t w : Nat} {ws : List Nat}
theorem aT_5 (j : Nat) : (addT B op so lo bits as).1 5 j = B.1 5 j := by simp [addT]
theorem aT_m : bma (addT B op so lo bits as) = bma B + 1 := by simp [addT, bma]
theorem aT_w : bwe (addT B op so lo bits as) = bwe B := by simp [addT, bwe]
theorem aT_7 (j : Nat) : (addT B op so lo bits as).1 7 j = if j = bma B then op else B.1 7 j := by simp [addT]
theorem aT_8 (j : Nat) : (addT B op so lo bits as).1 8 j = if j = bma B then so else B.1 8 j := by simp [addT]
theorem aT_9 (j : Nat) : (addT B op so lo bits as).1 9 j = if j = bma B + 1 then bfi B (bma B) + as.length else B.1 9 j := by simp [addT]
theorem aT_10 (j : Nat) : (addT B op so lo bits as).1 10 j = if bfi B (bma B) ≤ j ∧ j < bfi B (bma B) + as.length then as.getD (j - bfi B (bma B)) 0 else B.1 10 j := by simp [addT]
theorem aT_11 (j : Nat) : (addT B op so lo bits as).1 11 j = if j = bma B then lo else B.1 11 j := by simp [addT]
theorem aT_14 (j : Nat) : (addT B op so lo bits as).1 14 j = if j = bma B then lwo B as (bma B) else B.1 14 j := by simp [addT]
theorem aT_15 (j : Nat) : (addT B op so lo bits as).1 15 j = if j = bma B then cao B op lo as else B.1 15 j := by simp [addT]
theorem aT_k {k : Nat} (h : 16 ≤ k) (j : Nat) : (addT B op so lo bits as).1 k j = B.1 k j := by
  have n : ∀ m, m < 16 → ¬ k = m := fun m hm => by omega
  simp [addT, n 6 (by decide), n 7 (by decide), n 8 (by decide), n 9 (by decide), n 10 (by decide), n 11 (by decide), n 14 (by decide), n 15 (by decide)]
theorem aT_2 (j : Nat) : (addT B op so lo bits as).2 j = if j = bma B then bits else B.2 j := rfl
theorem wB_k {k j : Nat} (h : ¬ (k = 6 ∧ j = 10)) : (wtB B w).1 k j = B.1 k j := if_neg h
theorem wB_w : bwe (wtB B w) = w := by simp [wtB, bwe]
theorem aH_k {k : Nat} (h : k ≠ 5 ∧ k ≠ 19 ∧ k ≠ 20 ∧ k ≠ 21) (j : Nat) : (addTh B t).1 k j = B.1 k j := by simp [addTh, h.1, h.2.1, h.2.2.1, h.2.2.2]
theorem aH_5 (j : Nat) : (addTh B t).1 5 j = if j = 8 then bth B + 1 else B.1 5 j := by simp [addTh]
theorem aH_19 (j : Nat) : (addTh B t).1 19 j = if j = bth B then t else B.1 19 j := by simp [addTh]
theorem aH_20 (j : Nat) : (addTh B t).1 20 j = if j = bth B then bna B else B.1 20 j := by simp [addTh]
theorem aH_21 (j : Nat) : (addTh B t).1 21 j = if j = bth B + 1 then bsz B + szs (bso B t) else B.1 21 j := by simp [addTh]
theorem aN_k {k : Nat} (h : k ≠ 5 ∧ k ≠ 16 ∧ k ≠ 17 ∧ k ≠ 18) (j : Nat) : (addNm B ws t).1 k j = B.1 k j := by simp [addNm, h.1, h.2.1, h.2.2.1, h.2.2.2]
theorem aN_5 (j : Nat) : (addNm B ws t).1 5 j = if j = 4 then bna B + 1 else B.1 5 j := by simp [addNm]
theorem aN_16 (j : Nat) : (addNm B ws t).1 16 j = if B.1 17 (bna B) ≤ j ∧ j < B.1 17 (bna B) + ws.length then ws.getD (j - B.1 17 (bna B)) 0 else B.1 16 j := by simp [addNm]
theorem aN_17 (j : Nat) : (addNm B ws t).1 17 j = if j = bna B + 1 then B.1 17 (bna B) + ws.length else B.1 17 j := by simp [addNm]
theorem aN_18 (j : Nat) : (addNm B ws t).1 18 j = if j = bna B then t else B.1 18 j := by simp [addNm]
theorem aA_k {k : Nat} (h : k ≠ 5 ∧ k ≠ 22) (j : Nat) : (addAs B t).1 k j = B.1 k j := by simp [addAs, h.1, h.2]
theorem aA_5 (j : Nat) : (addAs B t).1 5 j = if j = 10 then bas B + 1 else B.1 5 j := by simp [addAs]
theorem aA_22 (j : Nat) : (addAs B t).1 22 j = if j = bas B then t else B.1 22 j := by simp [addAs]
end AT
/-- one book holds all of the other -/
def bex (B B' : Bk) : Prop := (∀ k j, j < bkB B k → B'.1 k j = B.1 k j) ∧ (∀ t, t < bma B → B'.2 t = B.2 t) ∧ ∀ k, bkB B k ≤ bkB B' k
theorem bex.refl (B : Bk) : bex B B := ⟨fun _ _ _ => rfl, fun _ _ => rfl, fun _ => Nat.le_refl _⟩
theorem bex.trans {B B' B2 : Bk} (h : bex B B') (h2 : bex B' B2) : bex B B2 :=
  ⟨fun k j hj => (h2.1 k j (Nat.lt_of_lt_of_le hj (h.2.2 k))).trans (h.1 k j hj), fun t ht => (h2.2.1 t (Nat.lt_of_lt_of_le ht (h.2.2 7))).trans (h.2.1 t ht), fun k => Nat.le_trans (h.2.2 k) (h2.2.2 k)⟩
theorem bex.ma {B B' : Bk} (h : bex B B') : bma B ≤ bma B' := h.2.2 7
theorem bex.na {B B' : Bk} (h : bex B B') : bna B ≤ bna B' := h.2.2 18
theorem bex.th {B B' : Bk} (h : bex B B') : bth B ≤ bth B' := h.2.2 19
theorem bex.as {B B' : Bk} (h : bex B B') : bas B ≤ bas B' := h.2.2 22
theorem bex.so {B B' : Bk} (h : bex B B') {t : Nat} (ht : t < bma B) : bso B' t = bso B t := h.1 8 t ht
theorem bex.op {B B' : Bk} (h : bex B B') {t : Nat} (ht : t < bma B) : bop B' t = bop B t := h.1 7 t ht
theorem bex_T {B : Bk} {op so lo : Nat} {bits : BitVec 64} {as : List Nat} : bex B (addT B op so lo bits as) := by
  refine ⟨fun k j hj => ?_, fun t ht => by rw [aT_2, if_neg (by omega)], fun k => ?_⟩
  · rcases bk_cs hj with ⟨rfl, h⟩ | ⟨rfl, h⟩ | ⟨rfl, h⟩ | ⟨rfl, h⟩ | ⟨rfl, h⟩ | ⟨rfl, h⟩ | ⟨rfl, h⟩ | ⟨rfl, h⟩ | ⟨rfl, h⟩ | ⟨rfl, h⟩ | ⟨rfl, h⟩ | ⟨rfl, h⟩ | ⟨rfl, h⟩ | ⟨rfl, h⟩
    · rw [aT_7, if_neg (by omega)]
    · rw [aT_8, if_neg (by omega)]
    · rw [aT_9, if_neg (by omega)]
    · rw [aT_10, if_neg (by omega)]
    · rw [aT_11, if_neg (by omega)]
    · rw [aT_14, if_neg (by omega)]
    · rw [aT_15, if_neg (by omega)]
    all_goals exact aT_k (by decide) j
  · unfold bkB
    have e9 : bfi (addT B op so lo bits as) (bma (addT B op so lo bits as)) = bfi B (bma B) + as.length := by
      rw [aT_m]; show (addT B op so lo bits as).1 9 _ = _; rw [aT_9, if_pos rfl]
    have e17 : (addT B op so lo bits as).1 17 (bna (addT B op so lo bits as)) = B.1 17 (bna B) := by
      rw [show bna (addT B op so lo bits as) = bna B from aT_5 4]; exact aT_k (by decide) _
    rw [e9, e17, show bna (addT B op so lo bits as) = bna B from aT_5 4, show bth (addT B op so lo bits as) = bth B from aT_5 8, show bas (addT B op so lo bits as) = bas B from aT_5 10, aT_m]
    split <;> omega
theorem bex_W {B : Bk} {w : Nat} : bex B (wtB B w) := by
  have ek : ∀ k j, k ≠ 6 → (wtB B w).1 k j = B.1 k j := fun k j h => wB_k (fun z => h z.1)
  have em : bma (wtB B w) = bma B := wB_k (by decide)
  refine ⟨fun k j hj => ek k j ?_, fun _ _ => rfl, fun k => ?_⟩
  · have := bk_cs hj
    omega
  · unfold bkB
    rw [em, show bna (wtB B w) = bna B from ek 5 4 (by decide), show bth (wtB B w) = bth B from ek 5 8 (by decide), show bas (wtB B w) = bas B from ek 5 10 (by decide), show bfi (wtB B w) (bma B) = bfi B (bma B) from ek 9 _ (by decide), ek 17 _ (by decide)]
    exact Nat.le_refl _
theorem bex_H {B : Bk} {t : Nat} : bex B (addTh B t) := by
  have em : bma (addTh B t) = bma B := aH_k (by decide) 9
  refine ⟨fun k j hj => ?_, fun _ _ => rfl, fun k => ?_⟩
  · rcases bk_cs hj with ⟨rfl, h⟩ | ⟨rfl, h⟩ | ⟨rfl, h⟩ | ⟨rfl, h⟩ | ⟨rfl, h⟩ | ⟨rfl, h⟩ | ⟨rfl, h⟩ | ⟨rfl, h⟩ | ⟨rfl, h⟩ | ⟨rfl, h⟩ | ⟨rfl, h⟩ | ⟨rfl, h⟩ | ⟨rfl, h⟩ | ⟨rfl, h⟩
    case inr.inr.inr.inr.inr.inr.inr.inr.inr.inr.inl => rw [aH_19, if_neg (by omega)]
    case inr.inr.inr.inr.inr.inr.inr.inr.inr.inr.inr.inl => rw [aH_20, if_neg (by omega)]
    case inr.inr.inr.inr.inr.inr.inr.inr.inr.inr.inr.inr.inl => rw [aH_21, if_neg (by omega)]
    all_goals exact aH_k (by decide) j
  · unfold bkB
    have e8 : bth (addTh B t) = bth B + 1 := by show (addTh B t).1 5 8 = _; rw [aH_5, if_pos rfl]
    have e4 : bna (addTh B t) = bna B := by show (addTh B t).1 5 4 = _; rw [aH_5, if_neg (by decide)]
    have e10 : bas (addTh B t) = bas B := by show (addTh B t).1 5 10 = _; rw [aH_5, if_neg (by decide)]
    rw [em, e4, e8, e10, show bfi (addTh B t) (bma B) = bfi B (bma B) from aH_k (by decide) _, aH_k (k := 17) (by decide)]
    split <;> omega
theorem bex_N {B : Bk} {w : List Nat} {t : Nat} : bex B (addNm B w t) := by
  have em : bma (addNm B w t) = bma B := aN_k (by decide) 9
  refine ⟨fun k j hj => ?_, fun _ _ => rfl, fun k => ?_⟩
  · rcases bk_cs hj with ⟨rfl, h⟩ | ⟨rfl, h⟩ | ⟨rfl, h⟩ | ⟨rfl, h⟩ | ⟨rfl, h⟩ | ⟨rfl, h⟩ | ⟨rfl, h⟩ | ⟨rfl, h⟩ | ⟨rfl, h⟩ | ⟨rfl, h⟩ | ⟨rfl, h⟩ | ⟨rfl, h⟩ | ⟨rfl, h⟩ | ⟨rfl, h⟩
    case inr.inr.inr.inr.inr.inr.inr.inl => rw [aN_16, if_neg (by omega)]
    case inr.inr.inr.inr.inr.inr.inr.inr.inl => rw [aN_17, if_neg (by omega)]
    case inr.inr.inr.inr.inr.inr.inr.inr.inr.inl => rw [aN_18, if_neg (by omega)]
    all_goals exact aN_k (by decide) j
  · unfold bkB
    have e8 : bth (addNm B w t) = bth B := by show (addNm B w t).1 5 8 = _; rw [aN_5, if_neg (by decide)]
    have e4 : bna (addNm B w t) = bna B + 1 := by show (addNm B w t).1 5 4 = _; rw [aN_5, if_pos rfl]
    have e10 : bas (addNm B w t) = bas B := by show (addNm B w t).1 5 10 = _; rw [aN_5, if_neg (by decide)]
    rw [em, e4, e8, e10, show bfi (addNm B w t) (bma B) = bfi B (bma B) from aN_k (by decide) _, aN_17, if_pos rfl]
    split <;> omega
theorem bex_A {B : Bk} {t : Nat} : bex B (addAs B t) := by
  have em : bma (addAs B t) = bma B := aA_k (by decide) 9
  refine ⟨fun k j hj => ?_, fun _ _ => rfl, fun k => ?_⟩
  · rcases bk_cs hj with ⟨rfl, h⟩ | ⟨rfl, h⟩ | ⟨rfl, h⟩ | ⟨rfl, h⟩ | ⟨rfl, h⟩ | ⟨rfl, h⟩ | ⟨rfl, h⟩ | ⟨rfl, h⟩ | ⟨rfl, h⟩ | ⟨rfl, h⟩ | ⟨rfl, h⟩ | ⟨rfl, h⟩ | ⟨rfl, h⟩ | ⟨rfl, h⟩
    case inr.inr.inr.inr.inr.inr.inr.inr.inr.inr.inr.inr.inr => rw [aA_22, if_neg (by omega)]
    all_goals exact aA_k (by decide) j
  · unfold bkB
    have e8 : bth (addAs B t) = bth B := by show (addAs B t).1 5 8 = _; rw [aA_5, if_neg (by decide)]
    have e4 : bna (addAs B t) = bna B := by show (addAs B t).1 5 4 = _; rw [aA_5, if_neg (by decide)]
    have e10 : bas (addAs B t) = bas B + 1 := by show (addAs B t).1 5 10 = _; rw [aA_5, if_pos rfl]
    rw [em, e4, e8, e10, show bfi (addAs B t) (bma B) = bfi B (bma B) from aA_k (by decide) _, aA_k (k := 17) (by decide)]
    split <;> omega
/-- the smaller book is still there -/
theorem RC.back {B B' : Bk} {σ σ' : xS} (R : RC B' σ) (x : bex B B') (h : xi σ' 6 9 = nI (bma B) ∧ xi σ' 6 10 = nI (bwe B) ∧ xi σ' 5 4 = nI (bna B) ∧ xi σ' 5 8 = nI (bth B) ∧ xi σ' 5 10 = nI (bas B)) (hi : ∀ k j, 7 ≤ k → k ≤ 22 → xi σ' k j = xi σ k j) (hl : ∀ k j, 12 ≤ k → k ≤ 13 → xl σ' k j = xl σ k j) : RC B σ' := by
  refine ⟨h, fun k j hj => ?_, fun t ht => ?_⟩
  · have := bk_cs hj
    rw [hi k j (by omega) (by omega), R.2.1 k j (Nat.lt_of_lt_of_le hj (x.2.2 k)), x.1 k j hj]
  · have r := R.2.2 t (Nat.lt_of_lt_of_le ht x.ma)
    rw [hl 12 t (by decide) (by decide), hl 13 t (by decide) (by decide), r.1, r.2, x.2.1 t ht]
    unfold bful
    rw [x.so ht]
    exact ⟨rfl, rfl⟩
