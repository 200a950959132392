/-! what chk says is right -/
section OK
variable {B : Bk} {kn on v : Nat → BitVec 64} {t S J : Nat}
theorem bful_eq {a b : Nat} (h : bso B a = bso B b) : bful B a = bful B b := by unfold bful; rw [h]
theorem bful_0 {a : Nat} (h : bso B a = 0) : bful B a = 1#64 := by
  unfold bful szs
  rw [if_pos h]
  decide
theorem bful_v {a : Nat} (h1 : 1 ≤ bso B a) (h2 : bso B a ≤ 64) : bful B a = bm (bso B a) := by unfold bful; rw [vec_sz h1 h2]
/-- of the argument at i: it agrees, and is within its sort -/
def arOk (B : Bk) (v kn on : Nat → BitVec 64) (a : Nat) : Prop := ag (v a) (kn a) (on a) ∧ kn a &&& bful B a = kn a ∧ v a &&& bful B a = v a
def tOk (B : Bk) (x : BitVec 64) (t : Nat) (r : BitVec 64 × BitVec 64) : Prop := ag x r.1 (r.2 &&& r.1) ∧ r.1 &&& bful B t = r.1
theorem sub_bits {k f : BitVec 64} (h : ∀ i, i < 64 → k.getLsbD i = true → f.getLsbD i = true) : k &&& f = k := by
  apply BitVec.eq_of_getLsbD_eq
  intro i hi
  rw [BitVec.getLsbD_and]
  cases e : k.getLsbD i with
  | false => rfl
  | true => rw [h i hi e]; rfl
theorem bits_sub {k f : BitVec 64} (h : k &&& f = k) {i : Nat} (hk : k.getLsbD i = true) : f.getLsbD i = true := by
  have := congrArg (fun z => z.getLsbD i) h
  simp only [BitVec.getLsbD_and, hk, Bool.true_and] at this
  exact this
end OK
