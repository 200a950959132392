/-! THE BOOK as numbers: B.1 k j is what the class's cell k holds at place j, B.2 the constants' bits -/
abbrev Bk : Type := (Nat → Nat → Nat) × (Nat → BitVec 64)
abbrev bma (B : Bk) : Nat := B.1 6 9
abbrev bwe (B : Bk) : Nat := B.1 6 10
abbrev bna (B : Bk) : Nat := B.1 5 4
abbrev bth (B : Bk) : Nat := B.1 5 8
abbrev bas (B : Bk) : Nat := B.1 5 10
abbrev bop (B : Bk) (t : Nat) : Nat := B.1 7 t
abbrev bso (B : Bk) (t : Nat) : Nat := B.1 8 t
abbrev bfi (B : Bk) (t : Nat) : Nat := B.1 9 t
abbrev bar (B : Bk) (i : Nat) : Nat := B.1 10 i
abbrev blo (B : Bk) (t : Nat) : Nat := B.1 11 t
abbrev blw (B : Bk) (t : Nat) : Nat := B.1 14 t
abbrev bca (B : Bk) (t : Nat) : Nat := B.1 15 t
abbrev btt (B : Bk) (i : Nat) : Nat := B.1 19 i
abbrev bbe (B : Bk) (i : Nat) : Nat := B.1 21 i
abbrev bsd (B : Bk) (i : Nat) : Nat := B.1 22 i
/-- all things' bits -/
abbrev bsz (B : Bk) : Nat := bbe B (bth B)
/-- how many entries a cell holds -/
def bkB (B : Bk) (k : Nat) : Nat := match k with
  | 7 => bma B
  | 8 => bma B
  | 9 => bma B + 1
  | 10 => bfi B (bma B)
  | 11 => bma B
  | 14 => bma B
  | 15 => bma B
  | 16 => B.1 17 (bna B)
  | 17 => bna B + 1
  | 18 => bna B
  | 19 => bth B
  | 20 => bth B
  | 21 => bth B + 1
  | 22 => bas B
  | _ => 0
def bful (B : Bk) (t : Nat) : BitVec 64 := bm (min 64 (szs (bso B t)))
/-- the class's cells hold the book -/
def RC (B : Bk) (σ : xS) : Prop := (xi σ 6 9 = nI (bma B) ∧ xi σ 6 10 = nI (bwe B) ∧ xi σ 5 4 = nI (bna B) ∧ xi σ 5 8 = nI (bth B) ∧ xi σ 5 10 = nI (bas B)) ∧
  (∀ k j, j < bkB B k → xi σ k j = nI (B.1 k j)) ∧ ∀ t, t < bma B → xl σ 12 t = jL (B.2 t) ∧ xl σ 13 t = jL (bful B t)
/-- what is right of a term, by its operator -/
def typ (B : Bk) (t : Nat) : Prop :=
  let f := bfi B t
  let n := bfi B (t + 1) - f
  let s := fun i => bso B (bar B (f + i))
  let r := bso B t
  match bop B t with
  | 47 => n = 0 ∧ blo B t < bth B ∧ btt B (blo B t) = t
  | 48 => n = 0 ∧ r ≤ 64 ∧ (B.2 t).toNat < 2 ^ szs r
  | 10 => n = 1 ∧ 1 ≤ s 0 ∧ s 0 ≤ 64 ∧ blo B t + r ≤ s 0 ∧ 1 ≤ r
  | 11 => n = 1 ∧ 1 ≤ s 0 ∧ s 0 ≤ r ∧ r ≤ 64
  | 12 => n = 1 ∧ 1 ≤ s 0 ∧ s 0 ≤ r ∧ r ≤ 64
  | 13 => n = 1 ∧ s 0 = 0 ∧ r = 0
  | 14 => 2 ≤ n ∧ (∀ i, i < n → s i = 0) ∧ r = 0
  | 15 => 2 ≤ n ∧ (∀ i, i < n → s i = 0) ∧ r = 0
  | 16 => 2 ≤ n ∧ (∀ i, i < n → s i = 0) ∧ r = 0
  | 17 => 2 ≤ n ∧ (∀ i, i < n → s i = 0) ∧ r = 0
  | 18 => n = 3 ∧ s 0 = 0 ∧ s 1 = r ∧ s 2 = r
  | 19 => 2 ≤ n ∧ (∀ i, i < n → s i = s 0) ∧ r = 0
  | 20 => 2 ≤ n ∧ (∀ i, i < n → s i = s 0) ∧ r = 0
  | 21 => n = 1 ∧ s 0 = r ∧ 1 ≤ r ∧ r ≤ 64
  | 22 => n = 1 ∧ s 0 = r ∧ 1 ≤ r ∧ r ≤ 64
  | 23 => 2 ≤ n ∧ (∀ i, i < n → s i = r) ∧ 1 ≤ r ∧ r ≤ 64
  | 24 => 2 ≤ n ∧ (∀ i, i < n → s i = r) ∧ 1 ≤ r ∧ r ≤ 64
  | 25 => 2 ≤ n ∧ (∀ i, i < n → s i = r) ∧ 1 ≤ r ∧ r ≤ 64
  | 26 => 2 ≤ n ∧ (∀ i, i < n → s i = r) ∧ 1 ≤ r ∧ r ≤ 64
  | 27 => 2 ≤ n ∧ (∀ i, i < n → s i = r) ∧ 1 ≤ r ∧ r ≤ 64
  | 44 => 2 ≤ n ∧ (∀ i, i < n → 1 ≤ s i ∧ s i ≤ 63) ∧ r = ((List.range n).map s).sum ∧ r ≤ 64
  | 45 => n = 2 ∧ 128 ≤ s 0 ∧ s 1 = s 0 / 128 ∧ r = s 0 % 128
  | 46 => n = 3 ∧ 128 ≤ s 0 ∧ s 1 = s 0 / 128 ∧ s 2 = s 0 % 128 ∧ r = s 0
  | o => n = 2 ∧ s 0 = s 1 ∧ 1 ≤ s 0 ∧ s 0 ≤ 64 ∧ (28 ≤ o ∧ o ≤ 35 ∧ r = s 0 ∨ 36 ≤ o ∧ o ≤ 43 ∧ r = 0)
/-- what is right of a book's terms and things -/
def wfB (B : Bk) : Prop :=
  (bma B ≤ 2000 ∧ bfi B (bma B) ≤ 80000 ∧ bfi B 0 = 0 ∧ bth B ≤ 500 ∧ bas B ≤ 500 ∧ bna B ≤ 500 ∧ bwe B ≤ 100000) ∧
  (∀ t, t < bma B → bfi B t ≤ bfi B (t + 1) ∧ bfi B (t + 1) ≤ bfi B (bma B)) ∧
  (∀ t, t < bma B → ∀ i, bfi B t ≤ i → i < bfi B (t + 1) → bar B i < t) ∧
  (∀ t, t < bma B → okS (bso B t) ∧ typ B t ∧ (128 ≤ bso B t → szs (bso B t) ≤ bsz B)) ∧
  (∀ i, i < bth B → btt B i < bma B ∧ bop B (btt B i) = 47 ∧ blo B (btt B i) = i ∧ bbe B (i + 1) = bbe B i + szs (bso B (btt B i))) ∧ bbe B 0 = 0 ∧
  (∀ i, i < bas B → bsd B i < bma B ∧ bso B (bsd B i) = 0)
section RCL
variable {B : Bk} {σ : xS}
theorem rc_op (h : RC B σ) {t : Nat} (ht : t < bma B) : xi σ 7 t = nI (bop B t) := h.2.1 7 t ht
theorem rc_so (h : RC B σ) {t : Nat} (ht : t < bma B) : xi σ 8 t = nI (bso B t) := h.2.1 8 t ht
theorem rc_fi (h : RC B σ) {t : Nat} (ht : t ≤ bma B) : xi σ 9 t = nI (bfi B t) := h.2.1 9 t (Nat.lt_succ_of_le ht)
theorem rc_ar (h : RC B σ) {i : Nat} (hi : i < bfi B (bma B)) : xi σ 10 i = nI (bar B i) := h.2.1 10 i hi
theorem rc_lo (h : RC B σ) {t : Nat} (ht : t < bma B) : xi σ 11 t = nI (blo B t) := h.2.1 11 t ht
theorem rc_lw (h : RC B σ) {t : Nat} (ht : t < bma B) : xi σ 14 t = nI (blw B t) := h.2.1 14 t ht
theorem rc_ca (h : RC B σ) {t : Nat} (ht : t < bma B) : xi σ 15 t = nI (bca B t) := h.2.1 15 t ht
theorem rc_tt (h : RC B σ) {i : Nat} (hi : i < bth B) : xi σ 19 i = nI (btt B i) := h.2.1 19 i hi
theorem rc_be (h : RC B σ) {i : Nat} (hi : i ≤ bth B) : xi σ 21 i = nI (bbe B i) := h.2.1 21 i (Nat.lt_succ_of_le hi)
theorem rc_sd (h : RC B σ) {i : Nat} (hi : i < bas B) : xi σ 22 i = nI (bsd B i) := h.2.1 22 i hi
theorem rc_bi (h : RC B σ) {t : Nat} (ht : t < bma B) : xl σ 12 t = jL (B.2 t) := (h.2.2 t ht).1
theorem rc_fu (h : RC B σ) {t : Nat} (ht : t < bma B) : xl σ 13 t = jL (bful B t) := (h.2.2 t ht).2
/-- a change elsewhere -/
theorem RC.keep {σ' : xS} (h : RC B σ) (hi : ∀ k j, 5 ≤ k → k ≤ 22 → xi σ' k j = xi σ k j) (hl : ∀ k j, 12 ≤ k → k ≤ 13 → xl σ' k j = xl σ k j) : RC B σ' := by
  obtain ⟨⟨a1, a2, a3, a4, a5⟩, b, c⟩ := h
  refine ⟨⟨?_, ?_, ?_, ?_, ?_⟩, fun k j hj => ?_, fun t ht => ?_⟩
  · rw [hi 6 9 (by decide) (by decide)]; exact a1
  · rw [hi 6 10 (by decide) (by decide)]; exact a2
  · rw [hi 5 4 (by decide) (by decide)]; exact a3
  · rw [hi 5 8 (by decide) (by decide)]; exact a4
  · rw [hi 5 10 (by decide) (by decide)]; exact a5
  · have hk : 5 ≤ k ∧ k ≤ 22 := by
      unfold bkB at hj
      split at hj <;> omega
    rw [hi k j hk.1 hk.2]
    exact b k j hj
  · rw [hl 12 t (by decide) (by decide), hl 13 t (by decide) (by decide)]
    exact c t ht
theorem RC.pl (h : RC B σ) (k j : Nat) (v : Int64) (hk : 14 ≤ k) : RC B (xpl σ k j v) := h.keep (fun _ _ _ _ => rfl) (fun a b h1 h2 => by rw [xl_pl, if_neg (by omega)])
theorem RC.pi (h : RC B σ) (k j : Nat) (v : Int32) (hk : 23 ≤ k ∨ k ≤ 4) : RC B (xpi σ k j v) := h.keep (fun a b h1 h2 => by rw [xi_pi, if_neg (by omega)]) (fun _ _ _ _ => rfl)
theorem wf_ma (h : wfB B) : bma B ≤ 2000 := h.1.1
theorem wf_ar {t i : Nat} (h : wfB B) (ht : t < bma B) (h1 : bfi B t ≤ i) (h2 : i < bfi B (t + 1)) : bar B i < t := h.2.2.1 t ht i h1 h2
theorem wf_fi {t : Nat} (h : wfB B) (ht : t < bma B) : bfi B t ≤ bfi B (t + 1) ∧ bfi B (t + 1) ≤ bfi B (bma B) ∧ bfi B (bma B) ≤ 80000 := ⟨(h.2.1 t ht).1, (h.2.1 t ht).2, h.1.2.1⟩
theorem wf_so {t : Nat} (h : wfB B) (ht : t < bma B) : okS (bso B t) := (h.2.2.2.1 t ht).1
theorem wf_ty {t : Nat} (h : wfB B) (ht : t < bma B) : typ B t := (h.2.2.2.1 t ht).2.1
end RCL
/-! what a term is worth, from what its arguments are worth -/
def fop (op : Nat) (a b : BitVec 64) : BitVec 64 := if op = 14 ∨ op = 23 then a &&& b else if op = 15 ∨ op = 24 then a ||| b else if op = 16 ∨ op = 25 then a ^^^ b else if op = 26 then a + b else a * b
def foldA (g : Nat → BitVec 64) (op : Nat) : Nat → BitVec 64
  | 0 => g 0
  | k + 1 => fop op (foldA g op k) (g (k + 1))
/-- g counts the arguments from the last one on -/
def implA (g : Nat → BitVec 64) : Nat → BitVec 64
  | 0 => g 0
  | k + 1 => implA g k ||| ~~~ g (k + 1)
def catA (g : Nat → BitVec 64) (w : Nat → Nat) : Nat → BitVec 64
  | 0 => 0#64
  | k + 1 => (catA g w k <<< w k) ||| g k
def turn (op w : Nat) : BitVec 64 := if op < 40 then 0#64 else 1#64 <<< (w - 1)
def cmpA (op : Nat) (a b : BitVec 64) (w : Nat) : Prop :=
  if op = 36 ∨ op = 40 then (a ^^^ turn op w).toNat < (b ^^^ turn op w).toNat
  else if op = 37 ∨ op = 41 then ¬ (b ^^^ turn op w).toNat < (a ^^^ turn op w).toNat
  else if op = 38 ∨ op = 42 then (b ^^^ turn op w).toNat < (a ^^^ turn op w).toNat
  else ¬ (a ^^^ turn op w).toNat < (b ^^^ turn op w).toNat
noncomputable def bit (p : Prop) : BitVec 64 := haveI := Classical.propDecidable p; if p then 1#64 else 0#64
theorem bit_t {p : Prop} (h : p) : bit p = 1#64 := if_pos h
theorem bit_f {p : Prop} (h : ¬ p) : bit p = 0#64 := if_neg h
noncomputable def appl (B : Bk) (v : Nat → BitVec 64) (t : Nat) : BitVec 64 :=
  let f := bfi B t
  let n := bfi B (t + 1) - f
  let g := fun i => v (bar B (f + i))
  let w := bso B (bar B f)
  match bop B t with
  | 10 => g 0 >>> blo B t
  | 11 => g 0
  | 12 => sgn (g 0) w
  | 13 => ~~~ g 0
  | 21 => ~~~ g 0
  | 14 => foldA g 14 (n - 1)
  | 15 => foldA g 15 (n - 1)
  | 16 => foldA g 16 (n - 1)
  | 23 => foldA g 23 (n - 1)
  | 24 => foldA g 24 (n - 1)
  | 25 => foldA g 25 (n - 1)
  | 26 => foldA g 26 (n - 1)
  | 27 => foldA g 27 (n - 1)
  | 17 => implA (fun i => g (n - 1 - i)) (n - 1)
  | 18 => if g 0 = 0#64 then g 2 else g 1
  | 19 => bit (∀ i, i + 1 < n → g (i + 1) = g i)
  | 20 => bit (∀ i, i < n → ∀ j, j < i → g i ≠ g j)
  | 22 => - g 0
  | 44 => catA g (fun i => bso B (bar B (f + i))) n
  | 45 => cel w (g 0) (g 1).toNat
  | 46 => (g 0 &&& ~~~ (bm (w % 128) <<< csh w (g 1).toNat)) ||| (g 2 <<< csh w (g 1).toNat)
  | o => if 36 ≤ o then bit (cmpA o (g 0) (g 1) w) else two o (g 0) (g 1) w
/-- of interpretation J of size S -/
noncomputable def stp (B : Bk) (S J : Nat) (v : Nat → BitVec 64) (t : Nat) : BitVec 64 :=
  if bop B t = 47 then (BitVec.ofNat 64 J >>> (S - bbe B (blo B t + 1))) &&& bful B t
  else if bop B t = 48 then B.2 t
  else appl B v t &&& bful B t
section TYAP
variable {B : Bk} {v : Nat → BitVec 64} {t : Nat}
theorem ty_47 (h : typ B t) (z : bop B t = 47) : (bfi B (t + 1) - bfi B t) = 0 ∧ blo B t < bth B ∧ btt B (blo B t) = t := by
  unfold typ at h
  rw [z] at h
  exact h
theorem ty_48 (h : typ B t) (z : bop B t = 48) : (bfi B (t + 1) - bfi B t) = 0 ∧ (bso B t) ≤ 64 ∧ (B.2 t).toNat < 2 ^ szs (bso B t) := by
  unfold typ at h
  rw [z] at h
  exact h
theorem ty_10 (h : typ B t) (z : bop B t = 10) : (bfi B (t + 1) - bfi B t) = 1 ∧ 1 ≤ bso B (bar B (bfi B t)) ∧ bso B (bar B (bfi B t)) ≤ 64 ∧ blo B t + (bso B t) ≤ bso B (bar B (bfi B t)) ∧ 1 ≤ (bso B t) := by
  unfold typ at h
  rw [z] at h
  exact h
theorem ty_11 (h : typ B t) (z : bop B t = 11) : (bfi B (t + 1) - bfi B t) = 1 ∧ 1 ≤ bso B (bar B (bfi B t)) ∧ bso B (bar B (bfi B t)) ≤ (bso B t) ∧ (bso B t) ≤ 64 := by
  unfold typ at h
  rw [z] at h
  exact h
theorem ty_12 (h : typ B t) (z : bop B t = 12) : (bfi B (t + 1) - bfi B t) = 1 ∧ 1 ≤ bso B (bar B (bfi B t)) ∧ bso B (bar B (bfi B t)) ≤ (bso B t) ∧ (bso B t) ≤ 64 := by
  unfold typ at h
  rw [z] at h
  exact h
theorem ty_13 (h : typ B t) (z : bop B t = 13) : (bfi B (t + 1) - bfi B t) = 1 ∧ bso B (bar B (bfi B t)) = 0 ∧ (bso B t) = 0 := by
  unfold typ at h
  rw [z] at h
  exact h
theorem ty_14 (h : typ B t) (z : bop B t = 14) : 2 ≤ (bfi B (t + 1) - bfi B t) ∧ (∀ i, i < (bfi B (t + 1) - bfi B t) → bso B (bar B (bfi B t + i)) = 0) ∧ (bso B t) = 0 := by
  unfold typ at h
  rw [z] at h
  exact h
theorem ty_15 (h : typ B t) (z : bop B t = 15) : 2 ≤ (bfi B (t + 1) - bfi B t) ∧ (∀ i, i < (bfi B (t + 1) - bfi B t) → bso B (bar B (bfi B t + i)) = 0) ∧ (bso B t) = 0 := by
  unfold typ at h
  rw [z] at h
  exact h
theorem ty_16 (h : typ B t) (z : bop B t = 16) : 2 ≤ (bfi B (t + 1) - bfi B t) ∧ (∀ i, i < (bfi B (t + 1) - bfi B t) → bso B (bar B (bfi B t + i)) = 0) ∧ (bso B t) = 0 := by
  unfold typ at h
  rw [z] at h
  exact h
theorem ty_17 (h : typ B t) (z : bop B t = 17) : 2 ≤ (bfi B (t + 1) - bfi B t) ∧ (∀ i, i < (bfi B (t + 1) - bfi B t) → bso B (bar B (bfi B t + i)) = 0) ∧ (bso B t) = 0 := by
  unfold typ at h
  rw [z] at h
  exact h
theorem ty_18 (h : typ B t) (z : bop B t = 18) : (bfi B (t + 1) - bfi B t) = 3 ∧ bso B (bar B (bfi B t)) = 0 ∧ bso B (bar B (bfi B t + 1)) = (bso B t) ∧ bso B (bar B (bfi B t + 2)) = (bso B t) := by
  unfold typ at h
  rw [z] at h
  exact h
theorem ty_19 (h : typ B t) (z : bop B t = 19) : 2 ≤ (bfi B (t + 1) - bfi B t) ∧ (∀ i, i < (bfi B (t + 1) - bfi B t) → bso B (bar B (bfi B t + i)) = bso B (bar B (bfi B t))) ∧ (bso B t) = 0 := by
  unfold typ at h
  rw [z] at h
  exact h
theorem ty_20 (h : typ B t) (z : bop B t = 20) : 2 ≤ (bfi B (t + 1) - bfi B t) ∧ (∀ i, i < (bfi B (t + 1) - bfi B t) → bso B (bar B (bfi B t + i)) = bso B (bar B (bfi B t))) ∧ (bso B t) = 0 := by
  unfold typ at h
  rw [z] at h
  exact h
theorem ty_21 (h : typ B t) (z : bop B t = 21) : (bfi B (t + 1) - bfi B t) = 1 ∧ bso B (bar B (bfi B t)) = (bso B t) ∧ 1 ≤ (bso B t) ∧ (bso B t) ≤ 64 := by
  unfold typ at h
  rw [z] at h
  exact h
theorem ty_22 (h : typ B t) (z : bop B t = 22) : (bfi B (t + 1) - bfi B t) = 1 ∧ bso B (bar B (bfi B t)) = (bso B t) ∧ 1 ≤ (bso B t) ∧ (bso B t) ≤ 64 := by
  unfold typ at h
  rw [z] at h
  exact h
theorem ty_23 (h : typ B t) (z : bop B t = 23) : 2 ≤ (bfi B (t + 1) - bfi B t) ∧ (∀ i, i < (bfi B (t + 1) - bfi B t) → bso B (bar B (bfi B t + i)) = (bso B t)) ∧ 1 ≤ (bso B t) ∧ (bso B t) ≤ 64 := by
  unfold typ at h
  rw [z] at h
  exact h
theorem ty_24 (h : typ B t) (z : bop B t = 24) : 2 ≤ (bfi B (t + 1) - bfi B t) ∧ (∀ i, i < (bfi B (t + 1) - bfi B t) → bso B (bar B (bfi B t + i)) = (bso B t)) ∧ 1 ≤ (bso B t) ∧ (bso B t) ≤ 64 := by
  unfold typ at h
  rw [z] at h
  exact h
theorem ty_25 (h : typ B t) (z : bop B t = 25) : 2 ≤ (bfi B (t + 1) - bfi B t) ∧ (∀ i, i < (bfi B (t + 1) - bfi B t) → bso B (bar B (bfi B t + i)) = (bso B t)) ∧ 1 ≤ (bso B t) ∧ (bso B t) ≤ 64 := by
  unfold typ at h
  rw [z] at h
  exact h
theorem ty_26 (h : typ B t) (z : bop B t = 26) : 2 ≤ (bfi B (t + 1) - bfi B t) ∧ (∀ i, i < (bfi B (t + 1) - bfi B t) → bso B (bar B (bfi B t + i)) = (bso B t)) ∧ 1 ≤ (bso B t) ∧ (bso B t) ≤ 64 := by
  unfold typ at h
  rw [z] at h
  exact h
theorem ty_27 (h : typ B t) (z : bop B t = 27) : 2 ≤ (bfi B (t + 1) - bfi B t) ∧ (∀ i, i < (bfi B (t + 1) - bfi B t) → bso B (bar B (bfi B t + i)) = (bso B t)) ∧ 1 ≤ (bso B t) ∧ (bso B t) ≤ 64 := by
  unfold typ at h
  rw [z] at h
  exact h
theorem ty_44 (h : typ B t) (z : bop B t = 44) : 2 ≤ (bfi B (t + 1) - bfi B t) ∧ (∀ i, i < (bfi B (t + 1) - bfi B t) → 1 ≤ bso B (bar B (bfi B t + i)) ∧ bso B (bar B (bfi B t + i)) ≤ 63) ∧ (bso B t) = ((List.range (bfi B (t + 1) - bfi B t)).map fun i => bso B (bar B (bfi B t + i))).sum ∧ (bso B t) ≤ 64 := by
  unfold typ at h
  rw [z] at h
  exact h
theorem ty_45 (h : typ B t) (z : bop B t = 45) : (bfi B (t + 1) - bfi B t) = 2 ∧ 128 ≤ bso B (bar B (bfi B t)) ∧ bso B (bar B (bfi B t + 1)) = bso B (bar B (bfi B t)) / 128 ∧ (bso B t) = bso B (bar B (bfi B t)) % 128 := by
  unfold typ at h
  rw [z] at h
  exact h
theorem ty_46 (h : typ B t) (z : bop B t = 46) : (bfi B (t + 1) - bfi B t) = 3 ∧ 128 ≤ bso B (bar B (bfi B t)) ∧ bso B (bar B (bfi B t + 1)) = bso B (bar B (bfi B t)) / 128 ∧ bso B (bar B (bfi B t + 2)) = bso B (bar B (bfi B t)) % 128 ∧ (bso B t) = bso B (bar B (bfi B t)) := by
  unfold typ at h
  rw [z] at h
  exact h
theorem ty_28 (h : typ B t) (z : bop B t = 28) : (bfi B (t + 1) - bfi B t) = 2 ∧ bso B (bar B (bfi B t)) = bso B (bar B (bfi B t + 1)) ∧ 1 ≤ bso B (bar B (bfi B t)) ∧ bso B (bar B (bfi B t)) ≤ 64 ∧ (bso B t) = bso B (bar B (bfi B t)) := by
  unfold typ at h
  simp only [z] at h
  obtain ⟨h1, h2, h3, h4, h5⟩ := h
  exact ⟨h1, h2, h3, h4, by simpa using h5⟩
theorem ty_29 (h : typ B t) (z : bop B t = 29) : (bfi B (t + 1) - bfi B t) = 2 ∧ bso B (bar B (bfi B t)) = bso B (bar B (bfi B t + 1)) ∧ 1 ≤ bso B (bar B (bfi B t)) ∧ bso B (bar B (bfi B t)) ≤ 64 ∧ (bso B t) = bso B (bar B (bfi B t)) := by
  unfold typ at h
  simp only [z] at h
  obtain ⟨h1, h2, h3, h4, h5⟩ := h
  exact ⟨h1, h2, h3, h4, by simpa using h5⟩
theorem ty_30 (h : typ B t) (z : bop B t = 30) : (bfi B (t + 1) - bfi B t) = 2 ∧ bso B (bar B (bfi B t)) = bso B (bar B (bfi B t + 1)) ∧ 1 ≤ bso B (bar B (bfi B t)) ∧ bso B (bar B (bfi B t)) ≤ 64 ∧ (bso B t) = bso B (bar B (bfi B t)) := by
  unfold typ at h
  simp only [z] at h
  obtain ⟨h1, h2, h3, h4, h5⟩ := h
  exact ⟨h1, h2, h3, h4, by simpa using h5⟩
theorem ty_31 (h : typ B t) (z : bop B t = 31) : (bfi B (t + 1) - bfi B t) = 2 ∧ bso B (bar B (bfi B t)) = bso B (bar B (bfi B t + 1)) ∧ 1 ≤ bso B (bar B (bfi B t)) ∧ bso B (bar B (bfi B t)) ≤ 64 ∧ (bso B t) = bso B (bar B (bfi B t)) := by
  unfold typ at h
  simp only [z] at h
  obtain ⟨h1, h2, h3, h4, h5⟩ := h
  exact ⟨h1, h2, h3, h4, by simpa using h5⟩
theorem ty_32 (h : typ B t) (z : bop B t = 32) : (bfi B (t + 1) - bfi B t) = 2 ∧ bso B (bar B (bfi B t)) = bso B (bar B (bfi B t + 1)) ∧ 1 ≤ bso B (bar B (bfi B t)) ∧ bso B (bar B (bfi B t)) ≤ 64 ∧ (bso B t) = bso B (bar B (bfi B t)) := by
  unfold typ at h
  simp only [z] at h
  obtain ⟨h1, h2, h3, h4, h5⟩ := h
  exact ⟨h1, h2, h3, h4, by simpa using h5⟩
theorem ty_33 (h : typ B t) (z : bop B t = 33) : (bfi B (t + 1) - bfi B t) = 2 ∧ bso B (bar B (bfi B t)) = bso B (bar B (bfi B t + 1)) ∧ 1 ≤ bso B (bar B (bfi B t)) ∧ bso B (bar B (bfi B t)) ≤ 64 ∧ (bso B t) = bso B (bar B (bfi B t)) := by
  unfold typ at h
  simp only [z] at h
  obtain ⟨h1, h2, h3, h4, h5⟩ := h
  exact ⟨h1, h2, h3, h4, by simpa using h5⟩
theorem ty_34 (h : typ B t) (z : bop B t = 34) : (bfi B (t + 1) - bfi B t) = 2 ∧ bso B (bar B (bfi B t)) = bso B (bar B (bfi B t + 1)) ∧ 1 ≤ bso B (bar B (bfi B t)) ∧ bso B (bar B (bfi B t)) ≤ 64 ∧ (bso B t) = bso B (bar B (bfi B t)) := by
  unfold typ at h
  simp only [z] at h
  obtain ⟨h1, h2, h3, h4, h5⟩ := h
  exact ⟨h1, h2, h3, h4, by simpa using h5⟩
theorem ty_35 (h : typ B t) (z : bop B t = 35) : (bfi B (t + 1) - bfi B t) = 2 ∧ bso B (bar B (bfi B t)) = bso B (bar B (bfi B t + 1)) ∧ 1 ≤ bso B (bar B (bfi B t)) ∧ bso B (bar B (bfi B t)) ≤ 64 ∧ (bso B t) = bso B (bar B (bfi B t)) := by
  unfold typ at h
  simp only [z] at h
  obtain ⟨h1, h2, h3, h4, h5⟩ := h
  exact ⟨h1, h2, h3, h4, by simpa using h5⟩
theorem ty_36 (h : typ B t) (z : bop B t = 36) : (bfi B (t + 1) - bfi B t) = 2 ∧ bso B (bar B (bfi B t)) = bso B (bar B (bfi B t + 1)) ∧ 1 ≤ bso B (bar B (bfi B t)) ∧ bso B (bar B (bfi B t)) ≤ 64 ∧ (bso B t) = 0 := by
  unfold typ at h
  simp only [z] at h
  obtain ⟨h1, h2, h3, h4, h5⟩ := h
  exact ⟨h1, h2, h3, h4, by simpa using h5⟩
theorem ty_37 (h : typ B t) (z : bop B t = 37) : (bfi B (t + 1) - bfi B t) = 2 ∧ bso B (bar B (bfi B t)) = bso B (bar B (bfi B t + 1)) ∧ 1 ≤ bso B (bar B (bfi B t)) ∧ bso B (bar B (bfi B t)) ≤ 64 ∧ (bso B t) = 0 := by
  unfold typ at h
  simp only [z] at h
  obtain ⟨h1, h2, h3, h4, h5⟩ := h
  exact ⟨h1, h2, h3, h4, by simpa using h5⟩
theorem ty_38 (h : typ B t) (z : bop B t = 38) : (bfi B (t + 1) - bfi B t) = 2 ∧ bso B (bar B (bfi B t)) = bso B (bar B (bfi B t + 1)) ∧ 1 ≤ bso B (bar B (bfi B t)) ∧ bso B (bar B (bfi B t)) ≤ 64 ∧ (bso B t) = 0 := by
  unfold typ at h
  simp only [z] at h
  obtain ⟨h1, h2, h3, h4, h5⟩ := h
  exact ⟨h1, h2, h3, h4, by simpa using h5⟩
theorem ty_39 (h : typ B t) (z : bop B t = 39) : (bfi B (t + 1) - bfi B t) = 2 ∧ bso B (bar B (bfi B t)) = bso B (bar B (bfi B t + 1)) ∧ 1 ≤ bso B (bar B (bfi B t)) ∧ bso B (bar B (bfi B t)) ≤ 64 ∧ (bso B t) = 0 := by
  unfold typ at h
  simp only [z] at h
  obtain ⟨h1, h2, h3, h4, h5⟩ := h
  exact ⟨h1, h2, h3, h4, by simpa using h5⟩
theorem ty_40 (h : typ B t) (z : bop B t = 40) : (bfi B (t + 1) - bfi B t) = 2 ∧ bso B (bar B (bfi B t)) = bso B (bar B (bfi B t + 1)) ∧ 1 ≤ bso B (bar B (bfi B t)) ∧ bso B (bar B (bfi B t)) ≤ 64 ∧ (bso B t) = 0 := by
  unfold typ at h
  simp only [z] at h
  obtain ⟨h1, h2, h3, h4, h5⟩ := h
  exact ⟨h1, h2, h3, h4, by simpa using h5⟩
theorem ty_41 (h : typ B t) (z : bop B t = 41) : (bfi B (t + 1) - bfi B t) = 2 ∧ bso B (bar B (bfi B t)) = bso B (bar B (bfi B t + 1)) ∧ 1 ≤ bso B (bar B (bfi B t)) ∧ bso B (bar B (bfi B t)) ≤ 64 ∧ (bso B t) = 0 := by
  unfold typ at h
  simp only [z] at h
  obtain ⟨h1, h2, h3, h4, h5⟩ := h
  exact ⟨h1, h2, h3, h4, by simpa using h5⟩
theorem ty_42 (h : typ B t) (z : bop B t = 42) : (bfi B (t + 1) - bfi B t) = 2 ∧ bso B (bar B (bfi B t)) = bso B (bar B (bfi B t + 1)) ∧ 1 ≤ bso B (bar B (bfi B t)) ∧ bso B (bar B (bfi B t)) ≤ 64 ∧ (bso B t) = 0 := by
  unfold typ at h
  simp only [z] at h
  obtain ⟨h1, h2, h3, h4, h5⟩ := h
  exact ⟨h1, h2, h3, h4, by simpa using h5⟩
theorem ty_43 (h : typ B t) (z : bop B t = 43) : (bfi B (t + 1) - bfi B t) = 2 ∧ bso B (bar B (bfi B t)) = bso B (bar B (bfi B t + 1)) ∧ 1 ≤ bso B (bar B (bfi B t)) ∧ bso B (bar B (bfi B t)) ≤ 64 ∧ (bso B t) = 0 := by
  unfold typ at h
  simp only [z] at h
  obtain ⟨h1, h2, h3, h4, h5⟩ := h
  exact ⟨h1, h2, h3, h4, by simpa using h5⟩
theorem ap_10 (z : bop B t = 10) : appl B v t = v (bar B (bfi B t)) >>> blo B t := by
  unfold appl
  rw [z]
  rfl
theorem ap_11 (z : bop B t = 11) : appl B v t = v (bar B (bfi B t)) := by
  unfold appl
  rw [z]
  rfl
theorem ap_12 (z : bop B t = 12) : appl B v t = sgn (v (bar B (bfi B t))) (bso B (bar B (bfi B t))) := by
  unfold appl
  rw [z]
  rfl
theorem ap_13 (z : bop B t = 13) : appl B v t = ~~~ v (bar B (bfi B t)) := by
  unfold appl
  rw [z]
  rfl
theorem ap_21 (z : bop B t = 21) : appl B v t = ~~~ v (bar B (bfi B t)) := by
  unfold appl
  rw [z]
  rfl
theorem ap_14 (z : bop B t = 14) : appl B v t = foldA (fun i => v (bar B (bfi B t + i))) 14 ((bfi B (t + 1) - bfi B t) - 1) := by
  unfold appl
  rw [z]
  rfl
theorem ap_15 (z : bop B t = 15) : appl B v t = foldA (fun i => v (bar B (bfi B t + i))) 15 ((bfi B (t + 1) - bfi B t) - 1) := by
  unfold appl
  rw [z]
  rfl
theorem ap_16 (z : bop B t = 16) : appl B v t = foldA (fun i => v (bar B (bfi B t + i))) 16 ((bfi B (t + 1) - bfi B t) - 1) := by
  unfold appl
  rw [z]
  rfl
theorem ap_23 (z : bop B t = 23) : appl B v t = foldA (fun i => v (bar B (bfi B t + i))) 23 ((bfi B (t + 1) - bfi B t) - 1) := by
  unfold appl
  rw [z]
  rfl
theorem ap_24 (z : bop B t = 24) : appl B v t = foldA (fun i => v (bar B (bfi B t + i))) 24 ((bfi B (t + 1) - bfi B t) - 1) := by
  unfold appl
  rw [z]
  rfl
theorem ap_25 (z : bop B t = 25) : appl B v t = foldA (fun i => v (bar B (bfi B t + i))) 25 ((bfi B (t + 1) - bfi B t) - 1) := by
  unfold appl
  rw [z]
  rfl
theorem ap_26 (z : bop B t = 26) : appl B v t = foldA (fun i => v (bar B (bfi B t + i))) 26 ((bfi B (t + 1) - bfi B t) - 1) := by
  unfold appl
  rw [z]
  rfl
theorem ap_27 (z : bop B t = 27) : appl B v t = foldA (fun i => v (bar B (bfi B t + i))) 27 ((bfi B (t + 1) - bfi B t) - 1) := by
  unfold appl
  rw [z]
  rfl
theorem ap_17 (z : bop B t = 17) : appl B v t = implA (fun i => v (bar B (bfi B t + ((bfi B (t + 1) - bfi B t) - 1 - i)))) ((bfi B (t + 1) - bfi B t) - 1) := by
  unfold appl
  rw [z]
  rfl
theorem ap_18 (z : bop B t = 18) : appl B v t = if v (bar B (bfi B t)) = 0#64 then v (bar B (bfi B t + 2)) else v (bar B (bfi B t + 1)) := by
  unfold appl
  rw [z]
  rfl
theorem ap_19 (z : bop B t = 19) : appl B v t = bit (∀ i, i + 1 < (bfi B (t + 1) - bfi B t) → v (bar B (bfi B t + (i + 1))) = v (bar B (bfi B t + i))) := by
  unfold appl
  rw [z]
  rfl
theorem ap_20 (z : bop B t = 20) : appl B v t = bit (∀ i, i < (bfi B (t + 1) - bfi B t) → ∀ j, j < i → v (bar B (bfi B t + i)) ≠ v (bar B (bfi B t + j))) := by
  unfold appl
  rw [z]
  rfl
theorem ap_22 (z : bop B t = 22) : appl B v t = - v (bar B (bfi B t)) := by
  unfold appl
  rw [z]
  rfl
theorem ap_44 (z : bop B t = 44) : appl B v t = catA (fun i => v (bar B (bfi B t + i))) (fun i => bso B (bar B (bfi B t + i))) (bfi B (t + 1) - bfi B t) := by
  unfold appl
  rw [z]
  rfl
theorem ap_45 (z : bop B t = 45) : appl B v t = cel (bso B (bar B (bfi B t))) (v (bar B (bfi B t))) (v (bar B (bfi B t + 1))).toNat := by
  unfold appl
  rw [z]
  rfl
theorem ap_46 (z : bop B t = 46) : appl B v t = (v (bar B (bfi B t)) &&& ~~~ (bm ((bso B (bar B (bfi B t))) % 128) <<< csh (bso B (bar B (bfi B t))) (v (bar B (bfi B t + 1))).toNat)) ||| (v (bar B (bfi B t + 2)) <<< csh (bso B (bar B (bfi B t))) (v (bar B (bfi B t + 1))).toNat) := by
  unfold appl
  rw [z]
  rfl
theorem ap_28 (z : bop B t = 28) : appl B v t = two 28 (v (bar B (bfi B t))) (v (bar B (bfi B t + 1))) (bso B (bar B (bfi B t))) := by
  unfold appl
  simp only [z]
  rfl
theorem ap_29 (z : bop B t = 29) : appl B v t = two 29 (v (bar B (bfi B t))) (v (bar B (bfi B t + 1))) (bso B (bar B (bfi B t))) := by
  unfold appl
  simp only [z]
  rfl
theorem ap_30 (z : bop B t = 30) : appl B v t = two 30 (v (bar B (bfi B t))) (v (bar B (bfi B t + 1))) (bso B (bar B (bfi B t))) := by
  unfold appl
  simp only [z]
  rfl
theorem ap_31 (z : bop B t = 31) : appl B v t = two 31 (v (bar B (bfi B t))) (v (bar B (bfi B t + 1))) (bso B (bar B (bfi B t))) := by
  unfold appl
  simp only [z]
  rfl
theorem ap_32 (z : bop B t = 32) : appl B v t = two 32 (v (bar B (bfi B t))) (v (bar B (bfi B t + 1))) (bso B (bar B (bfi B t))) := by
  unfold appl
  simp only [z]
  rfl
theorem ap_33 (z : bop B t = 33) : appl B v t = two 33 (v (bar B (bfi B t))) (v (bar B (bfi B t + 1))) (bso B (bar B (bfi B t))) := by
  unfold appl
  simp only [z]
  rfl
theorem ap_34 (z : bop B t = 34) : appl B v t = two 34 (v (bar B (bfi B t))) (v (bar B (bfi B t + 1))) (bso B (bar B (bfi B t))) := by
  unfold appl
  simp only [z]
  rfl
theorem ap_35 (z : bop B t = 35) : appl B v t = two 35 (v (bar B (bfi B t))) (v (bar B (bfi B t + 1))) (bso B (bar B (bfi B t))) := by
  unfold appl
  simp only [z]
  rfl
theorem ap_36 (z : bop B t = 36) : appl B v t = bit (cmpA 36 (v (bar B (bfi B t))) (v (bar B (bfi B t + 1))) (bso B (bar B (bfi B t)))) := by
  unfold appl
  simp only [z]
  rfl
theorem ap_37 (z : bop B t = 37) : appl B v t = bit (cmpA 37 (v (bar B (bfi B t))) (v (bar B (bfi B t + 1))) (bso B (bar B (bfi B t)))) := by
  unfold appl
  simp only [z]
  rfl
theorem ap_38 (z : bop B t = 38) : appl B v t = bit (cmpA 38 (v (bar B (bfi B t))) (v (bar B (bfi B t + 1))) (bso B (bar B (bfi B t)))) := by
  unfold appl
  simp only [z]
  rfl
theorem ap_39 (z : bop B t = 39) : appl B v t = bit (cmpA 39 (v (bar B (bfi B t))) (v (bar B (bfi B t + 1))) (bso B (bar B (bfi B t)))) := by
  unfold appl
  simp only [z]
  rfl
theorem ap_40 (z : bop B t = 40) : appl B v t = bit (cmpA 40 (v (bar B (bfi B t))) (v (bar B (bfi B t + 1))) (bso B (bar B (bfi B t)))) := by
  unfold appl
  simp only [z]
  rfl
theorem ap_41 (z : bop B t = 41) : appl B v t = bit (cmpA 41 (v (bar B (bfi B t))) (v (bar B (bfi B t + 1))) (bso B (bar B (bfi B t)))) := by
  unfold appl
  simp only [z]
  rfl
theorem ap_42 (z : bop B t = 42) : appl B v t = bit (cmpA 42 (v (bar B (bfi B t))) (v (bar B (bfi B t + 1))) (bso B (bar B (bfi B t)))) := by
  unfold appl
  simp only [z]
  rfl
theorem ap_43 (z : bop B t = 43) : appl B v t = bit (cmpA 43 (v (bar B (bfi B t))) (v (bar B (bfi B t + 1))) (bso B (bar B (bfi B t)))) := by
  unfold appl
  simp only [z]
  rfl
end TYAP
