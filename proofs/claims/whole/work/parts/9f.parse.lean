/-! HOW A TEXT IS READ: tokens into the book, or a fault and its place -/
abbrev PE (α : Type) : Type := Except (Nat × Nat) α
def eb {α β : Type} (p : PE α) (f : α → PE β) : PE β := match p with
  | .error e => .error e
  | .ok a => f a
theorem eb_ok {α β : Type} {p : PE α} {f : α → PE β} {a : α} (h : p = .ok a) : eb p f = f a := by rw [h]; rfl
theorem eb_er {α β : Type} {p : PE α} {f : α → PE β} {e : Nat × Nat} (h : p = .error e) : eb p f = .error e := by rw [h]; rfl
theorem eb_inv {α β : Type} {p : PE α} {f : α → PE β} {b : β} (h : eb p f = .ok b) : ∃ a, p = .ok a ∧ f a = .ok b := by
  cases e : p with
  | error x => rw [eb_er e] at h; cases h
  | ok a => rw [eb_ok e] at h; exact ⟨a, rfl, h⟩
section PARSE
variable (c : Nat → Nat) (l : Nat)
abbrev tK (i : Nat) : Nat := (tok c l i).1
abbrev tF (i : Nat) : Nat := (tok c l i).2.1
abbrev tE (i : Nat) : Nat := (tok c l i).2.2.1
abbrev tR (i : Nat) : Option Nat := (tok c l i).2.2.2
def tW (i : Nat) : List Nat := wtx c (tF c l i) (tE c l i)
def badT (i : Nat) : Nat × Nat := (if 16 ≤ tK c l i then tK c l i - 16 else 4, tF c l i)
def pX (i k : Nat) : PE Unit := if tK c l i = k then .ok () else .error (badT c l i)
def pXR (i r : Nat) : PE Unit := if tR c l i = some r then .ok () else .error (badT c l i)
def num (w : List Nat) : Nat := w.foldl (fun s d => 10 * s + (d - 48)) 0
def pN (i lo hi : Nat) : PE Nat := if tK c l i = 2 then (if lo ≤ num (tW c l i) ∧ num (tW c l i) ≤ hi then .ok (num (tW c l i)) else .error (7, tF c l i)) else .error (badT c l i)
def pWd (i most : Nat) : PE Nat := eb (pXR c l i 5) fun _ => eb (pN c l (i + 1) 1 most) fun w => eb (pX c l (i + 2) 1) fun _ => .ok w
def pSo (i : Nat) : PE (Nat × Nat) :=
  if tR c l i = some 3 then .ok (0, i)
  else eb (pX c l i 0) fun _ =>
    if tR c l (i + 1) = some 4 then eb (pWd c l (i + 2) 64) fun w => .ok (w, i + 4)
    else eb (pXR c l (i + 1) 6) fun _ => eb (pX c l (i + 2) 0) fun _ => eb (pXR c l (i + 3) 4) fun _ => eb (pWd c l (i + 4) 6) fun iw => eb (pX c l (i + 7) 0) fun _ => eb (pXR c l (i + 8) 4) fun _ => eb (pWd c l (i + 9) 64) fun w => eb (pX c l (i + 12) 1) fun _ => .ok (128 * iw + w, i + 12)
def pMk (B : Bk) (beg op so lo : Nat) (bits : BitVec 64) (as : List Nat) (wt : Nat) : PE (Nat × Bk) :=
  if 2000 ≤ bma B then .error (11, beg) else if 100000 < bwe B + wt then .error (12, beg) else .ok (bma B, addT (wtB B (bwe B + wt)) op so lo bits as)
/-- the letters of a name -/
def nmw (B : Bk) (n : Nat) : List Nat := wtx (B.1 16) (B.1 17 n) (B.1 17 (n + 1))
def fnm (B : Bk) (w : List Nat) : Option Nat := (List.range (bna B)).find? (fun n => decide (nmw B n = w))
def pNew (B : Bk) (i : Nat) : PE Unit := eb (pX c l i 5) fun _ =>
  if tR c l i ≠ none ∨ fnm B (tW c l i) ≠ none then .error (6, tF c l i)
  else if bna B < 500 ∧ B.1 17 (bna B) + (tW c l i).length ≤ 65536 then .ok () else .error (11, tF c l i)
def cst (s : Nat) (w : List Nat) : BitVec 64 := (w.drop 2).foldl (fun v d => (v <<< s) ||| BitVec.ofNat 64 ((dgv d).getD 0)) 0#64
def fitM (op n : Nat) : Bool :=
  if op = 10 ∨ op = 11 ∨ op = 12 ∨ op = 13 ∨ op = 21 ∨ op = 22 then decide (n = 1)
  else if op = 14 ∨ op = 15 ∨ op = 16 ∨ op = 17 ∨ op = 19 ∨ op = 20 ∨ op = 23 ∨ op = 24 ∨ op = 25 ∨ op = 26 ∨ op = 27 ∨ op = 44 then decide (2 ≤ n)
  else if op = 18 ∨ op = 46 then decide (n = 3)
  else decide (n = 2)
def vec (s : Nat) : Prop := 1 ≤ s ∧ s ≤ 127
/-- the sort of what an operator makes of arguments of sorts s 0 .. s (n - 1) -/
def sor (op n : Nat) (s : Nat → Nat) (hi lo : Nat) : Option Nat :=
  if op = 10 then (if (1 ≤ s 0 ∧ s 0 ≤ 127) ∧ hi < s 0 then some (hi - lo + 1) else none)
  else if op = 11 ∨ op = 12 then (if (1 ≤ s 0 ∧ s 0 ≤ 127) ∧ hi + s 0 ≤ 64 then some (s 0 + hi) else none)
  else if op = 13 ∨ op = 14 ∨ op = 15 ∨ op = 16 ∨ op = 17 then (if s 0 = 0 ∧ ∀ i, i < n → s i = s 0 then some 0 else none)
  else if op = 18 then (if s 0 = 0 ∧ s 2 = s 1 then some (s 1) else none)
  else if op = 19 ∨ op = 20 then (if ∀ i, i < n → s i = s 0 then some 0 else none)
  else if op = 44 then (if (∀ i, i < n → 1 ≤ s i ∧ s i ≤ 127) ∧ ((List.range n).map s).sum ≤ 64 then some ((List.range n).map s).sum else none)
  else if op = 45 then (if 128 ≤ s 0 ∧ s 1 = s 0 / 128 then some (s 0 % 128) else none)
  else if op = 46 then (if 128 ≤ s 0 ∧ s 1 = s 0 / 128 ∧ s 2 = s 0 % 128 then some (s 0) else none)
  else if (1 ≤ s 0 ∧ s 0 ≤ 127) ∧ ∀ i, i < n → s i = s 0 then some (if 36 ≤ op then 0 else s 0) else none
def wgh (op own s n : Nat) : Nat :=
  if op = 10 ∨ op = 11 ∨ op = 12 ∨ op = 44 then own
  else if op = 13 ∨ op = 21 then s
  else if op = 14 ∨ op = 15 ∨ op = 16 ∨ op = 17 ∨ op = 23 ∨ op = 24 ∨ op = 25 then 4 * s * (n - 1)
  else if op = 18 then 4 * own
  else if op = 19 then 5 * s * (n - 1)
  else if op = 20 then 5 * s * n * (n - 1)
  else if op = 26 then 10 * s * (n - 1)
  else if op = 27 then 14 * s * s * (n - 1)
  else if op = 29 ∨ op = 30 then 16 * s * s + 32 * s
  else if op = 31 ∨ op = 32 then 16 * s * s + 80 * s
  else if op = 33 ∨ op = 34 ∨ op = 35 then 30 * s
  else if op = 45 ∨ op = 46 then 8 * s
  else 10 * s
def pAp (B : Bk) (beg op hi lo : Nat) (as : List Nat) : PE (Nat × Bk) :=
  if fitM op as.length = false then .error (8, beg)
  else match sor op as.length (fun i => bso B (as.getD i 0)) hi lo with
    | none => .error (9, beg)
    | some s => pMk B beg op s (if op = 10 then lo else 0) 0#64 as (wgh op (szs s) (szs (bso B (as.getD 0 0))) as.length)
abbrev Vis : Type := List (List Nat × Nat)
def vlk (vis : Vis) (w : List Nat) : Option Nat := match vis with
  | [] => none
  | e :: es => if e.1 = w then some e.2 else vlk es w
abbrev PT : Type := Vis → Nat → Bk → Nat → PE (Nat × Bk × Nat)
def pAt (vis : Vis) (B : Bk) (i : Nat) : PE (Nat × Bk × Nat) :=
  if tK c l i = 5 then
    if tR c l i = some 7 ∨ tR c l i = some 8 then eb (pMk B (tF c l i) 48 0 0 (if tR c l i = some 7 then 1#64 else 0#64) [] 1) fun r => .ok (r.1, r.2, i)
    else match vlk vis (tW c l i) with
      | some t => .ok (t, B, i)
      | none => match fnm B (tW c l i) with
        | some m => .ok (B.1 18 m, B, i)
        | none => .error (5, tF c l i)
  else if tK c l i = 3 then eb (pMk B (tF c l i) 48 ((tW c l i).length - 2) 0 (cst 1 (tW c l i)) [] ((tW c l i).length - 2)) fun r => .ok (r.1, r.2, i)
  else if tK c l i = 4 then eb (pMk B (tF c l i) 48 (((tW c l i).length - 2) * 4) 0 (cst 4 (tW c l i)) [] (((tW c l i).length - 2) * 4)) fun r => .ok (r.1, r.2, i)
  else .error (badT c l i)
def pOp (j : Nat) : PE (Nat × Nat × Nat × Nat) :=
  if tK c l j = 0 then eb (pXR c l (j + 1) 4) fun _ => match tR c l (j + 2) with
    | none => .error (badT c l (j + 2))
    | some o => if 10 ≤ o ∧ o ≤ 12 then
        eb (pN c l (j + 3) 0 2147483647) fun h => if o = 10 then eb (pN c l (j + 4) 0 h) fun lo => eb (pX c l (j + 5) 1) fun _ => .ok (o, h, lo, j + 5) else eb (pX c l (j + 4) 1) fun _ => .ok (o, h, 0, j + 4)
      else .error (badT c l (j + 2))
  else match tR c l j with
    | none => .error (badT c l j)
    | some o => if 13 ≤ o then .ok (o, 0, 0, j) else .error (badT c l j)
def pAr (T : PT) (vis : Vis) (nb beg : Nat) : Nat → Bk → Nat → List Nat → PE (Bk × Nat × List Nat)
  | 0, B, i, as => if tK c l i = 1 then .ok (B, i, as) else eb (T vis nb B i) fun _ => .error (11, beg)
  | m + 1, B, i, as => if tK c l i = 1 then .ok (B, i, as) else eb (T vis nb B i) fun r => pAr T vis nb beg m r.2.1 (r.2.2 + 1) (as ++ [r.1])
def pBs (T : PT) (vis : Vis) (nb : Nat) : Nat → Bk → Nat → Vis → PE (Bk × Nat × Vis)
  | 0, _, _, _ => .error (0, 0)
  | m + 1, B, i, new => eb (pX c l (i + 1) 5) fun _ =>
      if tR c l (i + 1) ≠ none ∨ vlk new (tW c l (i + 1)) ≠ none then .error (6, tF c l (i + 1))
      else if 16 ≤ nb + new.length then .error (11, tF c l (i + 1))
      else eb (T vis (nb + new.length + 1) B (i + 2)) fun r => eb (pX c l (r.2.2 + 1) 1) fun _ =>
        if tK c l (r.2.2 + 2) = 0 then pBs T vis nb m r.2.1 (r.2.2 + 2) ((tW c l (i + 1), r.1) :: new) else .ok (r.2.1, r.2.2 + 2, (tW c l (i + 1), r.1) :: new)
def pLt (T : PT) (vis : Vis) (nb : Nat) (B : Bk) (i : Nat) : PE (Nat × Bk × Nat) :=
  eb (pX c l (i + 2) 0) fun _ => eb (pX c l (i + 3) 0) fun _ => eb (pBs c l T vis nb 17 B (i + 3) []) fun q => eb (pX c l q.2.1 1) fun _ =>
    eb (T (q.2.2 ++ vis) (nb + q.2.2.length) q.1 (q.2.1 + 1)) fun r => eb (pX c l (r.2.2 + 1) 1) fun _ => .ok (r.1, r.2.1, r.2.2 + 1)
def pBr (T : PT) (vis : Vis) (nb : Nat) (B : Bk) (i : Nat) : PE (Nat × Bk × Nat) :=
  if tR c l (i + 1) = some 9 then pLt c l T vis nb B i
  else eb (pOp c l (i + 1)) fun o => eb (pAr c l T vis nb (tF c l i) 40 B (o.2.2.2 + 1) []) fun q => eb (pAp q.1 (tF c l i) o.1 o.2.1 o.2.2.1 q.2.2) fun r => .ok (r.1, r.2, q.2.1)
def pTm : Nat → PT
  | 0 => fun vis _ B i => if tK c l i = 0 then .error (0, 0) else pAt c l vis B i
  | n + 1 => fun vis nb B i => if tK c l i = 0 then pBr c l (pTm n) vis nb B i else pAt c l vis B i
def pDc (B : Bk) (i : Nat) : PE (Bk × Nat) := eb (pNew c l B i) fun _ => eb (pSo c l (i + 1)) fun s => eb (pMk B (tF c l i) 47 s.1 (bth B) 0#64 [] (szs s.1)) fun r => .ok (addNm (addTh r.2 r.1) (tW c l i) r.1, s.2)
def pDf (B : Bk) (i : Nat) : PE (Bk × Nat) := eb (pNew c l B i) fun _ => eb (pX c l (i + 1) 0) fun _ => eb (pX c l (i + 2) 1) fun _ => eb (pSo c l (i + 3)) fun s => eb (pTm c l 59 [] 0 B (s.2 + 1)) fun r =>
  if bso r.2.1 r.1 = s.1 then .ok (addNm r.2.1 (tW c l i) r.1, r.2.2) else .error (9, tF c l (s.2 + 1))
def pAf (B : Bk) (i : Nat) : PE (Bk × Nat) := eb (pTm c l 59 [] 0 B i) fun r =>
  if bso r.2.1 r.1 = 0 then (if bas r.2.1 < 500 then .ok (addAs r.2.1 r.1, r.2.2) else .error (11, tF c l i)) else .error (9, tF c l i)
def pCm (B : Bk) (j : Nat) : PE (Bk × Nat) := eb (pX c l j 0) fun _ => eb (if tR c l (j + 1) = some 0 then pDc c l B (j + 2) else if tR c l (j + 1) = some 1 then pDf c l B (j + 2) else if tR c l (j + 1) = some 2 then pAf c l B (j + 2) else .error (badT c l (j + 1))) fun r => eb (pX c l (r.2 + 1) 1) fun _ => .ok (r.1, r.2 + 1)
def pAll : Nat → Bk → Nat → Nat → PE (Bk × Nat)
  | 0, B, _, n => .ok (B, n)
  | m + 1, B, j, n => if tK c l j = 19 then .ok (B, n) else eb (pCm c l B j) fun r => pAll m r.1 (r.2 + 1) (n + 1)
end PARSE
