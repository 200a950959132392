/-! what chk says is right -/
section OK
variable {B : Bk} {kn on v : Nat → BitVec 64} {t S J : Nat}
theorem bful_eq {a b : Nat} (h : bso B a = bso B b) : bful B a = bful B b := by unfold bful; rw [h]
theorem bful_0 {a : Nat} (h : bso B a = 0) : bful B a = 1#64 := by
  unfold bful szs
  rw [if_pos h]
  decide
theorem bful_v {a : Nat} (h1 : 1 ≤ bso B a) (h2 : bso B a ≤ 64) : bful B a = bm (bso B a) := by unfold bful; rw [vec_sz h1 h2]
/-- of the argument at i: it agrees, and is within its sort -/
def arOk (B : Bk) (v kn on : Nat → BitVec 64) (a : Nat) : Prop := ag (v a) (kn a) (on a) ∧ kn a &&& bful B a = kn a ∧ v a &&& bful B a = v a
def tOk (B : Bk) (x : BitVec 64) (t : Nat) (r : BitVec 64 × BitVec 64) : Prop := ag x r.1 (r.2 &&& r.1) ∧ r.1 &&& bful B t = r.1
theorem sub_bits {k f : BitVec 64} (h : ∀ i, i < 64 → k.getLsbD i = true → f.getLsbD i = true) : k &&& f = k := by
  apply BitVec.eq_of_getLsbD_eq
  intro i hi
  rw [BitVec.getLsbD_and]
  cases e : k.getLsbD i with
  | false => rfl
  | true => rw [h i hi e]; rfl
theorem bits_sub {k f : BitVec 64} (h : k &&& f = k) {i : Nat} (hk : k.getLsbD i = true) : f.getLsbD i = true := by
  have := congrArg (fun z => z.getLsbD i) h
  simp only [BitVec.getLsbD_and, hk, Bool.true_and] at this
  exact this
theorem stp_ap (n7 : bop B t ≠ 47) (n8 : bop B t ≠ 48) : stp B S J v t = appl B v t &&& bful B t := by
  unfold stp
  rw [if_neg n7, if_neg n8]
theorem ok_and {op : Nat} (hop : op = 14 ∨ op = 23) (n : Nat) (hn : 2 ≤ n) (k o g : Nat → BitVec 64) (F : BitVec 64) (h : ∀ i, i < n → ag (g i) (k i) (o i)) (hf : ∀ i, i < n → k i &&& F = k i) :
    ag (foldA g op (n - 1) &&& F) ((andK F k o n).1 ||| (andK F k o n).2) ((andK F k o n).1 &&& ((andK F k o n).1 ||| (andK F k o n).2)) ∧ ((andK F k o n).1 ||| (andK F k o n).2) &&& F = ((andK F k o n).1 ||| (andK F k o n).2) := by
  refine ⟨snd_and hop (by omega) h, sub_bits (fun i hi hb => ?_)⟩
  rw [BitVec.getLsbD_or, Bool.or_eq_true] at hb
  rcases hb with hb | hb
  · exact ((andK_1 n).mp hb).1
  · obtain ⟨j, h1, h2, -⟩ := (andK_2 hi n).mp hb
    exact bits_sub (hf j h1) h2
theorem ok_or {op : Nat} (hop : op = 15 ∨ op = 24) (n : Nat) (hn : 2 ≤ n) (k o g : Nat → BitVec 64) (F : BitVec 64) (h : ∀ i, i < n → ag (g i) (k i) (o i)) (hf : ∀ i, i < n → k i &&& F = k i) :
    ag (foldA g op (n - 1) &&& F) ((orK F k o (fun _ => 0#64) n).1 ||| (orK F k o (fun _ => 0#64) n).2) ((orK F k o (fun _ => 0#64) n).1 &&& ((orK F k o (fun _ => 0#64) n).1 ||| (orK F k o (fun _ => 0#64) n).2)) ∧ ((orK F k o (fun _ => 0#64) n).1 ||| (orK F k o (fun _ => 0#64) n).2) &&& F = ((orK F k o (fun _ => 0#64) n).1 ||| (orK F k o (fun _ => 0#64) n).2) := by
  refine ⟨snd_or hop (by omega) h hf, sub_bits (fun i hi hb => ?_)⟩
  rw [BitVec.getLsbD_or, Bool.or_eq_true] at hb
  rcases hb with hb | hb
  · obtain ⟨j, h1, h2⟩ := (orK_1 n).mp hb
    simp only [BitVec.xor_zero] at h2
    exact bits_sub (hf j h1) (ag_sub (h j h1) h2).1
  · exact ((orK_2 hi n).mp hb).1
theorem ok_impl (n : Nat) (hn : 2 ≤ n) (k o g : Nat → BitVec 64) (F : BitVec 64) (h : ∀ i, i < n → ag (g i) (k i) (o i)) (hf : ∀ i, i < n → k i &&& F = k i) :
    ag (implA (fun i => g (n - 1 - i)) (n - 1) &&& F) ((orK F k o (tnI k n) n).1 ||| (orK F k o (tnI k n) n).2) ((orK F k o (tnI k n) n).1 &&& ((orK F k o (tnI k n) n).1 ||| (orK F k o (tnI k n) n).2)) ∧ ((orK F k o (tnI k n) n).1 ||| (orK F k o (tnI k n) n).2) &&& F = ((orK F k o (tnI k n) n).1 ||| (orK F k o (tnI k n) n).2) := by
  refine ⟨snd_impl (by omega) h hf, sub_bits (fun i hi hb => ?_)⟩
  rw [BitVec.getLsbD_or, Bool.or_eq_true] at hb
  rcases hb with hb | hb
  · obtain ⟨j, h1, h2⟩ := (orK_1 n).mp hb
    refine bits_sub (hf j h1) ?_
    unfold tnI at h2
    by_cases e : j + 1 < n
    · rw [if_pos e, BitVec.getLsbD_xor] at h2
      cases ho : (o j).getLsbD i with
      | true => exact (ag_sub (h j h1) ho).1
      | false => rw [ho, Bool.false_xor] at h2; exact h2
    · rw [if_neg e, BitVec.xor_zero] at h2
      exact (ag_sub (h j h1) h2).1
  · exact ((orK_2 hi n).mp hb).1
theorem ok_xor {op : Nat} (hop : op = 16 ∨ op = 25) (n : Nat) (hn : 2 ≤ n) (k o g : Nat → BitVec 64) (F : BitVec 64) (h : ∀ i, i < n → ag (g i) (k i) (o i)) :
    ag (foldA g op (n - 1) &&& F) (xorK F k o n).1 ((xorK F k o n).2 &&& (xorK F k o n).1) ∧ (xorK F k o n).1 &&& F = (xorK F k o n).1 :=
  ⟨snd_xor hop (by omega) h, sub_bits (fun i hi hb => ((xorK_1 n).mp hb).1)⟩
end OK
