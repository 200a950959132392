section CK
variable {B : Bk} {kn on : Nat → BitVec 64} {t : Nat}
theorem ck_48 (z : bop B t = 48) : chk B kn on t = ((bful B t), B.2 t) := by
  unfold chk
  simp only [z]
  try rfl
theorem ck_10 (z : bop B t = 10) : chk B kn on t = ((kn (bar B (bfi B t)) >>> blo B t) &&& (bful B t), on (bar B (bfi B t)) >>> blo B t) := by
  unfold chk
  simp only [z]
  try rfl
theorem ck_11 (z : bop B t = 11) : chk B kn on t = (kn (bar B (bfi B t)) ||| ((bful B t) &&& ~~~ bful B (bar B (bfi B t))), on (bar B (bfi B t))) := by
  unfold chk
  simp only [z]
  try rfl
theorem ck_12 (z : bop B t = 12) : chk B kn on t = (sgn (kn (bar B (bfi B t))) (bso B (bar B (bfi B t))) &&& (bful B t), sgn (on (bar B (bfi B t))) (bso B (bar B (bfi B t)))) := by
  unfold chk
  simp only [z]
  try rfl
theorem ck_22 (z : bop B t = 22) : chk B kn on t = (lrun (kn (bar B (bfi B t))), - on (bar B (bfi B t))) := by
  unfold chk
  simp only [z]
  try rfl
theorem ck_13 (z : bop B t = 13) : chk B kn on t = (kn (bar B (bfi B t)), ~~~ on (bar B (bfi B t))) := by
  unfold chk
  simp only [z]
  try rfl
theorem ck_21 (z : bop B t = 21) : chk B kn on t = (kn (bar B (bfi B t)), ~~~ on (bar B (bfi B t))) := by
  unfold chk
  simp only [z]
  try rfl
theorem ck_14 (z : bop B t = 14) : chk B kn on t = ((andK (bful B t) (fun i => kn (bar B (bfi B t + i))) (fun i => on (bar B (bfi B t + i))) (bfi B (t + 1) - bfi B t)).1 ||| (andK (bful B t) (fun i => kn (bar B (bfi B t + i))) (fun i => on (bar B (bfi B t + i))) (bfi B (t + 1) - bfi B t)).2, (andK (bful B t) (fun i => kn (bar B (bfi B t + i))) (fun i => on (bar B (bfi B t + i))) (bfi B (t + 1) - bfi B t)).1) := by
  unfold chk
  simp only [z]
  try rfl
theorem ck_23 (z : bop B t = 23) : chk B kn on t = ((andK (bful B t) (fun i => kn (bar B (bfi B t + i))) (fun i => on (bar B (bfi B t + i))) (bfi B (t + 1) - bfi B t)).1 ||| (andK (bful B t) (fun i => kn (bar B (bfi B t + i))) (fun i => on (bar B (bfi B t + i))) (bfi B (t + 1) - bfi B t)).2, (andK (bful B t) (fun i => kn (bar B (bfi B t + i))) (fun i => on (bar B (bfi B t + i))) (bfi B (t + 1) - bfi B t)).1) := by
  unfold chk
  simp only [z]
  try rfl
theorem ck_15 (z : bop B t = 15) : chk B kn on t = ((orK (bful B t) (fun i => kn (bar B (bfi B t + i))) (fun i => on (bar B (bfi B t + i))) (fun _ => 0#64) (bfi B (t + 1) - bfi B t)).1 ||| (orK (bful B t) (fun i => kn (bar B (bfi B t + i))) (fun i => on (bar B (bfi B t + i))) (fun _ => 0#64) (bfi B (t + 1) - bfi B t)).2, (orK (bful B t) (fun i => kn (bar B (bfi B t + i))) (fun i => on (bar B (bfi B t + i))) (fun _ => 0#64) (bfi B (t + 1) - bfi B t)).1) := by
  unfold chk
  simp only [z]
  try rfl
theorem ck_24 (z : bop B t = 24) : chk B kn on t = ((orK (bful B t) (fun i => kn (bar B (bfi B t + i))) (fun i => on (bar B (bfi B t + i))) (fun _ => 0#64) (bfi B (t + 1) - bfi B t)).1 ||| (orK (bful B t) (fun i => kn (bar B (bfi B t + i))) (fun i => on (bar B (bfi B t + i))) (fun _ => 0#64) (bfi B (t + 1) - bfi B t)).2, (orK (bful B t) (fun i => kn (bar B (bfi B t + i))) (fun i => on (bar B (bfi B t + i))) (fun _ => 0#64) (bfi B (t + 1) - bfi B t)).1) := by
  unfold chk
  simp only [z]
  try rfl
theorem ck_17 (z : bop B t = 17) : chk B kn on t = ((orK (bful B t) (fun i => kn (bar B (bfi B t + i))) (fun i => on (bar B (bfi B t + i))) (tnI (fun i => kn (bar B (bfi B t + i))) (bfi B (t + 1) - bfi B t)) (bfi B (t + 1) - bfi B t)).1 ||| (orK (bful B t) (fun i => kn (bar B (bfi B t + i))) (fun i => on (bar B (bfi B t + i))) (tnI (fun i => kn (bar B (bfi B t + i))) (bfi B (t + 1) - bfi B t)) (bfi B (t + 1) - bfi B t)).2, (orK (bful B t) (fun i => kn (bar B (bfi B t + i))) (fun i => on (bar B (bfi B t + i))) (tnI (fun i => kn (bar B (bfi B t + i))) (bfi B (t + 1) - bfi B t)) (bfi B (t + 1) - bfi B t)).1) := by
  unfold chk
  simp only [z]
  try rfl
theorem ck_16 (z : bop B t = 16) : chk B kn on t = xorK (bful B t) (fun i => kn (bar B (bfi B t + i))) (fun i => on (bar B (bfi B t + i))) (bfi B (t + 1) - bfi B t) := by
  unfold chk
  simp only [z]
  try rfl
theorem ck_25 (z : bop B t = 25) : chk B kn on t = xorK (bful B t) (fun i => kn (bar B (bfi B t + i))) (fun i => on (bar B (bfi B t + i))) (bfi B (t + 1) - bfi B t) := by
  unfold chk
  simp only [z]
  try rfl
theorem ck_18 (z : bop B t = 18) : chk B kn on t = if kn (bar B (bfi B t)) = bful B (bar B (bfi B t)) then (if on (bar B (bfi B t)) = 0#64 then (kn (bar B (bfi B t + 2)), on (bar B (bfi B t + 2))) else (kn (bar B (bfi B t + 1)), on (bar B (bfi B t + 1)))) else (kn (bar B (bfi B t + 1)) &&& kn (bar B (bfi B t + 2)) &&& ~~~ (on (bar B (bfi B t + 1)) ^^^ on (bar B (bfi B t + 2))), on (bar B (bfi B t + 1))) := by
  unfold chk
  simp only [z]
  try rfl
theorem ck_19 (z : bop B t = 19) : chk B kn on t = eiK (eqK (fun i => sSa B kn on (bar B (bfi B t)) (bar B (bfi B t + (i + 1)))) (fun i => sOt (kn (bar B (bfi B t))) (kn (bar B (bfi B t + (i + 1)))) (on (bar B (bfi B t))) (on (bar B (bfi B t + (i + 1))))) ((bfi B (t + 1) - bfi B t) - 1)) := by
  unfold chk
  simp only [z]
  try rfl
theorem ck_20 (z : bop B t = 20) : chk B kn on t = eiK ((fun r => (r.2, r.1)) (dsK (fun i j => sSa B kn on (bar B (bfi B t + i)) (bar B (bfi B t + j))) (fun i j => sOt (kn (bar B (bfi B t + i))) (kn (bar B (bfi B t + j))) (on (bar B (bfi B t + i))) (on (bar B (bfi B t + j)))) ((bfi B (t + 1) - bfi B t) - 1))) := by
  unfold chk
  simp only [z]
  try rfl
theorem ck_26 (z : bop B t = 26) : chk B kn on t = sumK (bful B t) (fun i => kn (bar B (bfi B t + i))) (fun i => on (bar B (bfi B t + i))) (bfi B (t + 1) - bfi B t) := by
  unfold chk
  simp only [z]
  try rfl
theorem ck_27 (z : bop B t = 27) : chk B kn on t = (bm (prodK (bso B t) (fun i => kn (bar B (bfi B t + i))) (fun i => on (bar B (bfi B t + i))) (bfi B (t + 1) - bfi B t)).1, (prodK (bso B t) (fun i => kn (bar B (bfi B t + i))) (fun i => on (bar B (bfi B t + i))) (bfi B (t + 1) - bfi B t)).2) := by
  unfold chk
  simp only [z]
  try rfl
theorem ck_44 (z : bop B t = 44) : chk B kn on t = catK (fun i => kn (bar B (bfi B t + i))) (fun i => on (bar B (bfi B t + i))) (fun i => bso B (bar B (bfi B t + i))) (bfi B (t + 1) - bfi B t) := by
  unfold chk
  simp only [z]
  try rfl
theorem ck_28 (z : bop B t = 28) : chk B kn on t = (lrun (kn (bar B (bfi B t)) &&& kn (bar B (bfi B t + 1))), on (bar B (bfi B t)) - on (bar B (bfi B t + 1))) := by
  unfold chk
  simp only [z]
  try rfl
theorem ck_45 (z : bop B t = 45) : chk B kn on t = if kn (bar B (bfi B t + 1)) = bful B (bar B (bfi B t + 1)) then ((kn (bar B (bfi B t)) >>> csh (bso B (bar B (bfi B t))) (on (bar B (bfi B t + 1))).toNat) &&& (bful B t), on (bar B (bfi B t)) >>> csh (bso B (bar B (bfi B t))) (on (bar B (bfi B t + 1))).toNat) else (0#64, 0#64) := by
  unfold chk
  simp only [z]
  try rfl
theorem ck_46 (z : bop B t = 46) : chk B kn on t = if kn (bar B (bfi B t + 1)) = bful B (bar B (bfi B t + 1)) then ((kn (bar B (bfi B t)) &&& ~~~ (bful B (bar B (bfi B t + 2)) <<< csh (bso B t) (on (bar B (bfi B t + 1))).toNat)) ||| (kn (bar B (bfi B t + 2)) <<< csh (bso B t) (on (bar B (bfi B t + 1))).toNat), (on (bar B (bfi B t)) &&& ~~~ (bful B (bar B (bfi B t + 2)) <<< csh (bso B t) (on (bar B (bfi B t + 1))).toNat)) ||| (on (bar B (bfi B t + 2)) <<< csh (bso B t) (on (bar B (bfi B t + 1))).toNat)) else (0#64, 0#64) := by
  unfold chk
  simp only [z]
  try rfl
theorem ck_29 (z : bop B t = 29) : chk B kn on t = if kn (bar B (bfi B t)) = bful B (bar B (bfi B t)) ∧ kn (bar B (bfi B t + 1)) = bful B (bar B (bfi B t + 1)) then ((bful B t), two 29 (on (bar B (bfi B t))) (on (bar B (bfi B t + 1))) (bso B t)) else (0#64, 0#64) := by
  unfold chk
  simp only [z]
  rfl
theorem ck_30 (z : bop B t = 30) : chk B kn on t = if kn (bar B (bfi B t)) = bful B (bar B (bfi B t)) ∧ kn (bar B (bfi B t + 1)) = bful B (bar B (bfi B t + 1)) then ((bful B t), two 30 (on (bar B (bfi B t))) (on (bar B (bfi B t + 1))) (bso B t)) else (0#64, 0#64) := by
  unfold chk
  simp only [z]
  rfl
theorem ck_31 (z : bop B t = 31) : chk B kn on t = if kn (bar B (bfi B t)) = bful B (bar B (bfi B t)) ∧ kn (bar B (bfi B t + 1)) = bful B (bar B (bfi B t + 1)) then ((bful B t), two 31 (on (bar B (bfi B t))) (on (bar B (bfi B t + 1))) (bso B t)) else (0#64, 0#64) := by
  unfold chk
  simp only [z]
  rfl
theorem ck_32 (z : bop B t = 32) : chk B kn on t = if kn (bar B (bfi B t)) = bful B (bar B (bfi B t)) ∧ kn (bar B (bfi B t + 1)) = bful B (bar B (bfi B t + 1)) then ((bful B t), two 32 (on (bar B (bfi B t))) (on (bar B (bfi B t + 1))) (bso B t)) else (0#64, 0#64) := by
  unfold chk
  simp only [z]
  rfl
theorem ck_33 (z : bop B t = 33) : chk B kn on t = if kn (bar B (bfi B t + 1)) = bful B (bar B (bfi B t + 1)) then shK 33 (bso B t) (bful B t) (kn (bar B (bfi B t))) (on (bar B (bfi B t))) (on (bar B (bfi B t + 1))) else (0#64, 0#64) := by
  unfold chk
  simp only [z]
  rfl
theorem ck_34 (z : bop B t = 34) : chk B kn on t = if kn (bar B (bfi B t + 1)) = bful B (bar B (bfi B t + 1)) then shK 34 (bso B t) (bful B t) (kn (bar B (bfi B t))) (on (bar B (bfi B t))) (on (bar B (bfi B t + 1))) else (0#64, 0#64) := by
  unfold chk
  simp only [z]
  rfl
theorem ck_35 (z : bop B t = 35) : chk B kn on t = if kn (bar B (bfi B t + 1)) = bful B (bar B (bfi B t + 1)) then shK 35 (bso B t) (bful B t) (kn (bar B (bfi B t))) (on (bar B (bfi B t))) (on (bar B (bfi B t + 1))) else (0#64, 0#64) := by
  unfold chk
  simp only [z]
  rfl
theorem ck_36 (z : bop B t = 36) : chk B kn on t = eiK (cmK 36 (lst (kn (bar B (bfi B t))) (on (bar B (bfi B t))) (turn 36 (bso B (bar B (bfi B t))))) (mst (kn (bar B (bfi B t))) (on (bar B (bfi B t))) (turn 36 (bso B (bar B (bfi B t)))) (bful B (bar B (bfi B t)))) (lst (kn (bar B (bfi B t + 1))) (on (bar B (bfi B t + 1))) (turn 36 (bso B (bar B (bfi B t))))) (mst (kn (bar B (bfi B t + 1))) (on (bar B (bfi B t + 1))) (turn 36 (bso B (bar B (bfi B t)))) (bful B (bar B (bfi B t + 1))))) := by
  unfold chk
  simp only [z]
  rfl
theorem ck_37 (z : bop B t = 37) : chk B kn on t = eiK (cmK 37 (lst (kn (bar B (bfi B t))) (on (bar B (bfi B t))) (turn 37 (bso B (bar B (bfi B t))))) (mst (kn (bar B (bfi B t))) (on (bar B (bfi B t))) (turn 37 (bso B (bar B (bfi B t)))) (bful B (bar B (bfi B t)))) (lst (kn (bar B (bfi B t + 1))) (on (bar B (bfi B t + 1))) (turn 37 (bso B (bar B (bfi B t))))) (mst (kn (bar B (bfi B t + 1))) (on (bar B (bfi B t + 1))) (turn 37 (bso B (bar B (bfi B t)))) (bful B (bar B (bfi B t + 1))))) := by
  unfold chk
  simp only [z]
  rfl
theorem ck_38 (z : bop B t = 38) : chk B kn on t = eiK (cmK 38 (lst (kn (bar B (bfi B t))) (on (bar B (bfi B t))) (turn 38 (bso B (bar B (bfi B t))))) (mst (kn (bar B (bfi B t))) (on (bar B (bfi B t))) (turn 38 (bso B (bar B (bfi B t)))) (bful B (bar B (bfi B t)))) (lst (kn (bar B (bfi B t + 1))) (on (bar B (bfi B t + 1))) (turn 38 (bso B (bar B (bfi B t))))) (mst (kn (bar B (bfi B t + 1))) (on (bar B (bfi B t + 1))) (turn 38 (bso B (bar B (bfi B t)))) (bful B (bar B (bfi B t + 1))))) := by
  unfold chk
  simp only [z]
  rfl
theorem ck_39 (z : bop B t = 39) : chk B kn on t = eiK (cmK 39 (lst (kn (bar B (bfi B t))) (on (bar B (bfi B t))) (turn 39 (bso B (bar B (bfi B t))))) (mst (kn (bar B (bfi B t))) (on (bar B (bfi B t))) (turn 39 (bso B (bar B (bfi B t)))) (bful B (bar B (bfi B t)))) (lst (kn (bar B (bfi B t + 1))) (on (bar B (bfi B t + 1))) (turn 39 (bso B (bar B (bfi B t))))) (mst (kn (bar B (bfi B t + 1))) (on (bar B (bfi B t + 1))) (turn 39 (bso B (bar B (bfi B t)))) (bful B (bar B (bfi B t + 1))))) := by
  unfold chk
  simp only [z]
  rfl
theorem ck_40 (z : bop B t = 40) : chk B kn on t = eiK (cmK 40 (lst (kn (bar B (bfi B t))) (on (bar B (bfi B t))) (turn 40 (bso B (bar B (bfi B t))))) (mst (kn (bar B (bfi B t))) (on (bar B (bfi B t))) (turn 40 (bso B (bar B (bfi B t)))) (bful B (bar B (bfi B t)))) (lst (kn (bar B (bfi B t + 1))) (on (bar B (bfi B t + 1))) (turn 40 (bso B (bar B (bfi B t))))) (mst (kn (bar B (bfi B t + 1))) (on (bar B (bfi B t + 1))) (turn 40 (bso B (bar B (bfi B t)))) (bful B (bar B (bfi B t + 1))))) := by
  unfold chk
  simp only [z]
  rfl
theorem ck_41 (z : bop B t = 41) : chk B kn on t = eiK (cmK 41 (lst (kn (bar B (bfi B t))) (on (bar B (bfi B t))) (turn 41 (bso B (bar B (bfi B t))))) (mst (kn (bar B (bfi B t))) (on (bar B (bfi B t))) (turn 41 (bso B (bar B (bfi B t)))) (bful B (bar B (bfi B t)))) (lst (kn (bar B (bfi B t + 1))) (on (bar B (bfi B t + 1))) (turn 41 (bso B (bar B (bfi B t))))) (mst (kn (bar B (bfi B t + 1))) (on (bar B (bfi B t + 1))) (turn 41 (bso B (bar B (bfi B t)))) (bful B (bar B (bfi B t + 1))))) := by
  unfold chk
  simp only [z]
  rfl
theorem ck_42 (z : bop B t = 42) : chk B kn on t = eiK (cmK 42 (lst (kn (bar B (bfi B t))) (on (bar B (bfi B t))) (turn 42 (bso B (bar B (bfi B t))))) (mst (kn (bar B (bfi B t))) (on (bar B (bfi B t))) (turn 42 (bso B (bar B (bfi B t)))) (bful B (bar B (bfi B t)))) (lst (kn (bar B (bfi B t + 1))) (on (bar B (bfi B t + 1))) (turn 42 (bso B (bar B (bfi B t))))) (mst (kn (bar B (bfi B t + 1))) (on (bar B (bfi B t + 1))) (turn 42 (bso B (bar B (bfi B t)))) (bful B (bar B (bfi B t + 1))))) := by
  unfold chk
  simp only [z]
  rfl
theorem ck_43 (z : bop B t = 43) : chk B kn on t = eiK (cmK 43 (lst (kn (bar B (bfi B t))) (on (bar B (bfi B t))) (turn 43 (bso B (bar B (bfi B t))))) (mst (kn (bar B (bfi B t))) (on (bar B (bfi B t))) (turn 43 (bso B (bar B (bfi B t)))) (bful B (bar B (bfi B t)))) (lst (kn (bar B (bfi B t + 1))) (on (bar B (bfi B t + 1))) (turn 43 (bso B (bar B (bfi B t))))) (mst (kn (bar B (bfi B t + 1))) (on (bar B (bfi B t + 1))) (turn 43 (bso B (bar B (bfi B t)))) (bful B (bar B (bfi B t + 1))))) := by
  unfold chk
  simp only [z]
  rfl
end CK
