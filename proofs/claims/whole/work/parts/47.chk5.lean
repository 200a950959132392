/-! what the Checker knows of a term, as one function: known, ones (before they are cut) -/
noncomputable def eiK (r : Bool × Bool) : BitVec 64 × BitVec 64 := (if r.1 || r.2 then 1#64 else 0#64, if r.1 then 1#64 else 0#64)
noncomputable def shK (op w : Nat) (F ka oa : BitVec 64) (s : BitVec 64) : BitVec 64 × BitVec 64 :=
  if op = 35 then ((sgn ka w).sshiftRight (sshf s w) &&& F, (sgn oa w).sshiftRight (sshf s w))
  else if ¬ s.toNat < w then (F, 0#64)
  else if op = 33 then (((ka <<< s.toNat) ||| bm s.toNat) &&& F, oa <<< s.toNat)
  else ((ka >>> s.toNat) ||| (F &&& ~~~ (F >>> s.toNat)), oa >>> s.toNat)
noncomputable def chk (B : Bk) (kn on : Nat → BitVec 64) (t : Nat) : BitVec 64 × BitVec 64 :=
  let f := bfi B t
  let n := bfi B (t + 1) - f
  let k := fun i => kn (bar B (f + i))
  let o := fun i => on (bar B (f + i))
  let g := fun i => bful B (bar B (f + i))
  let F := bful B t
  let w := bso B (bar B f)
  match bop B t with
  | 48 => (F, B.2 t)
  | 10 => ((k 0 >>> blo B t) &&& F, o 0 >>> blo B t)
  | 11 => (k 0 ||| (F &&& ~~~ g 0), o 0)
  | 12 => (sgn (k 0) w &&& F, sgn (o 0) w)
  | 22 => (lrun (k 0), - o 0)
  | 13 => (k 0, ~~~ o 0)
  | 21 => (k 0, ~~~ o 0)
  | 14 => ((andK F k o n).1 ||| (andK F k o n).2, (andK F k o n).1)
  | 23 => ((andK F k o n).1 ||| (andK F k o n).2, (andK F k o n).1)
  | 15 => ((orK F k o (fun _ => 0#64) n).1 ||| (orK F k o (fun _ => 0#64) n).2, (orK F k o (fun _ => 0#64) n).1)
  | 24 => ((orK F k o (fun _ => 0#64) n).1 ||| (orK F k o (fun _ => 0#64) n).2, (orK F k o (fun _ => 0#64) n).1)
  | 17 => ((orK F k o (tnI k n) n).1 ||| (orK F k o (tnI k n) n).2, (orK F k o (tnI k n) n).1)
  | 16 => xorK F k o n
  | 25 => xorK F k o n
  | 18 => if k 0 = g 0 then (if o 0 = 0#64 then (k 2, o 2) else (k 1, o 1)) else (k 1 &&& k 2 &&& ~~~ (o 1 ^^^ o 2), o 1)
  | 19 => eiK (eqK (fun i => sSa B kn on (bar B f) (bar B (f + (i + 1)))) (fun i => sOt (k 0) (k (i + 1)) (o 0) (o (i + 1))) (n - 1))
  | 20 => eiK ((fun r => (r.2, r.1)) (dsK (fun i j => sSa B kn on (bar B (f + i)) (bar B (f + j))) (fun i j => sOt (k i) (k j) (o i) (o j)) (n - 1)))
  | 26 => sumK F k o n
  | 27 => (bm (prodK (bso B t) k o n).1, (prodK (bso B t) k o n).2)
  | 44 => catK k o (fun i => bso B (bar B (f + i))) n
  | 28 => (lrun (k 0 &&& k 1), o 0 - o 1)
  | 45 => if k 1 = g 1 then ((k 0 >>> csh w (o 1).toNat) &&& F, o 0 >>> csh w (o 1).toNat) else (0#64, 0#64)
  | 46 => if k 1 = g 1 then ((k 0 &&& ~~~ (g 2 <<< csh (bso B t) (o 1).toNat)) ||| (k 2 <<< csh (bso B t) (o 1).toNat), (o 0 &&& ~~~ (g 2 <<< csh (bso B t) (o 1).toNat)) ||| (o 2 <<< csh (bso B t) (o 1).toNat)) else (0#64, 0#64)
  | p => if p < 33 then (if k 0 = g 0 ∧ k 1 = g 1 then (F, two p (o 0) (o 1) (bso B t)) else (0#64, 0#64))
    else if p < 36 then (if k 1 = g 1 then shK p (bso B t) F (k 0) (o 0) (o 1) else (0#64, 0#64))
    else eiK (cmK p (lst (k 0) (o 0) (turn p w)) (mst (k 0) (o 0) (turn p w) (g 0)) (lst (k 1) (o 1) (turn p w)) (mst (k 1) (o 1) (turn p w) (g 1)))
