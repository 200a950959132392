/-! THE CHECKER IS RIGHT: what it knows of a term's bits holds of every value that agrees with what it knows of the arguments -/
theorem andK_1 {f : BitVec 64} {k o : Nat → BitVec 64} {j : Nat} : ∀ n, (andK f k o n).1.getLsbD j = true ↔ f.getLsbD j = true ∧ ∀ i, i < n → (o i).getLsbD j = true
  | 0 => by simp [andK]
  | n + 1 => by
    simp only [andK, BitVec.getLsbD_and, Bool.and_eq_true, andK_1 n]
    constructor
    · rintro ⟨⟨h1, h2⟩, h3⟩
      exact ⟨h1, lt_s h2 h3⟩
    · rintro ⟨h1, h2⟩
      exact ⟨⟨h1, fun i hi => h2 i (by omega)⟩, h2 n (by omega)⟩
theorem andK_2 {f : BitVec 64} {k o : Nat → BitVec 64} {j : Nat} (hj : j < 64) : ∀ n, (andK f k o n).2.getLsbD j = true ↔ ∃ i, i < n ∧ (k i).getLsbD j = true ∧ (o i).getLsbD j = false
  | 0 => by simp [andK]
  | n + 1 => by
    simp only [andK, BitVec.getLsbD_or, BitVec.getLsbD_and, BitVec.getLsbD_not, Bool.or_eq_true, Bool.and_eq_true, andK_2 hj n, decide_eq_true_eq, Bool.not_eq_true']
    constructor
    · rintro (⟨i, h1, h2⟩ | ⟨h1, h2, h3⟩)
      · exact ⟨i, by omega, h2⟩
      · exact ⟨n, by omega, h1, h3⟩
    · rintro ⟨i, h1, h2, h3⟩
      by_cases e : i = n
      · subst e; exact Or.inr ⟨h2, hj, h3⟩
      · exact Or.inl ⟨i, by omega, h2, h3⟩
theorem xorK_1 {f : BitVec 64} {k o : Nat → BitVec 64} {j : Nat} : ∀ n, (xorK f k o n).1.getLsbD j = true ↔ f.getLsbD j = true ∧ ∀ i, i < n → (k i).getLsbD j = true
  | 0 => by simp [xorK]
  | n + 1 => by
    simp only [xorK, BitVec.getLsbD_and, Bool.and_eq_true, xorK_1 n]
    constructor
    · rintro ⟨⟨h1, h2⟩, h3⟩
      exact ⟨h1, lt_s h2 h3⟩
    · rintro ⟨h1, h2⟩
      exact ⟨⟨h1, fun i hi => h2 i (by omega)⟩, h2 n (by omega)⟩
theorem orK_1 {f : BitVec 64} {k o tn : Nat → BitVec 64} {j : Nat} : ∀ n, (orK f k o tn n).1.getLsbD j = true ↔ ∃ i, i < n ∧ (o i ^^^ tn i).getLsbD j = true
  | 0 => by simp [orK]
  | n + 1 => by
    simp only [orK, BitVec.getLsbD_or, Bool.or_eq_true, orK_1 n]
    constructor
    · rintro (⟨i, h1, h2⟩ | h1)
      · exact ⟨i, by omega, h2⟩
      · exact ⟨n, by omega, h1⟩
    · rintro ⟨i, h1, h2⟩
      by_cases e : i = n
      · subst e; exact Or.inr h2
      · exact Or.inl ⟨i, by omega, h2⟩
theorem orK_2 {f : BitVec 64} {k o tn : Nat → BitVec 64} {j : Nat} (hj : j < 64) : ∀ n, (orK f k o tn n).2.getLsbD j = true ↔ f.getLsbD j = true ∧ ∀ i, i < n → (k i).getLsbD j = true ∧ (o i ^^^ tn i).getLsbD j = false
  | 0 => by simp [orK]
  | n + 1 => by
    simp only [orK, BitVec.getLsbD_and, BitVec.getLsbD_not, Bool.and_eq_true, orK_2 hj n, decide_eq_true_eq, Bool.not_eq_true']
    constructor
    · rintro ⟨⟨h1, h2⟩, h3, h4, h5⟩
      exact ⟨h1, lt_s h2 ⟨h3, h5⟩⟩
    · rintro ⟨h1, h2⟩
      exact ⟨⟨h1, fun i hi => h2 i (by omega)⟩, (h2 n (by omega)).1, hj, (h2 n (by omega)).2⟩
theorem fold_and {g : Nat → BitVec 64} {op j : Nat} (ho : op = 14 ∨ op = 23) : ∀ n, (foldA g op n).getLsbD j = true ↔ ∀ i, i < n + 1 → (g i).getLsbD j = true
  | 0 => ⟨fun h i hi => by rw [show i = 0 by omega]; exact h, fun h => h 0 (by decide)⟩
  | n + 1 => by
    simp only [foldA, fop, if_pos ho, BitVec.getLsbD_and, Bool.and_eq_true, fold_and ho n]
    constructor
    · rintro ⟨h1, h2⟩
      exact lt_s h1 h2
    · intro h
      exact ⟨fun i hi => h i (by omega), h (n + 1) (by omega)⟩
theorem fold_or {g : Nat → BitVec 64} {op j : Nat} (ho : op = 15 ∨ op = 24) : ∀ n, (foldA g op n).getLsbD j = true ↔ ∃ i, i < n + 1 ∧ (g i).getLsbD j = true
  | 0 => ⟨fun h => ⟨0, by decide, h⟩, fun ⟨i, hi, h⟩ => by rw [show i = 0 by omega] at h; exact h⟩
  | n + 1 => by
    simp only [foldA, fop, if_neg (show ¬ (op = 14 ∨ op = 23) by omega), if_pos ho, BitVec.getLsbD_or, Bool.or_eq_true, fold_or ho n]
    constructor
    · rintro (⟨i, h1, h2⟩ | h)
      · exact ⟨i, by omega, h2⟩
      · exact ⟨n + 1, by omega, h⟩
    · rintro ⟨i, h1, h2⟩
      by_cases e : i = n + 1
      · subst e; exact Or.inr h2
      · exact Or.inl ⟨i, by omega, h2⟩
theorem snd_and {g k o : Nat → BitVec 64} {f : BitVec 64} {n op : Nat} (ho : op = 14 ∨ op = 23) (hn : 1 ≤ n) (h : ∀ i, i < n → ag (g i) (k i) (o i)) :
    ag (foldA g op (n - 1) &&& f) ((andK f k o n).1 ||| (andK f k o n).2) ((andK f k o n).1 &&& ((andK f k o n).1 ||| (andK f k o n).2)) := by
  apply ag_l
  intro j hj hb
  rw [BitVec.getLsbD_or, Bool.or_eq_true] at hb
  cases h1 : (andK f k o n).1.getLsbD j with
  | true =>
    obtain ⟨a1, a2⟩ := (andK_1 n).mp h1
    rw [BitVec.getLsbD_and, a1, Bool.and_true, fold_and ho]
    exact fun i hi => (ag_sub (h i (by omega)) (a2 i (by omega))).2
  | false =>
    rw [h1] at hb
    obtain ⟨i, h2, h3, h4⟩ := (andK_2 hj n).mp (hb.resolve_left (by decide))
    have : ¬ (foldA g op (n - 1)).getLsbD j = true := by
      rw [fold_and ho]
      intro q
      have := ag_k (h i h2) h3
      rw [q i (by omega), h4] at this
      cases this
    rw [BitVec.getLsbD_and, Bool.eq_false_iff.mpr this]
    rfl
theorem snd_or {g k o : Nat → BitVec 64} {f : BitVec 64} {n op : Nat} (ho : op = 15 ∨ op = 24) (hn : 1 ≤ n) (h : ∀ i, i < n → ag (g i) (k i) (o i)) (hf : ∀ i, i < n → k i &&& f = k i) :
    ag (foldA g op (n - 1) &&& f) ((orK f k o (fun _ => 0#64) n).1 ||| (orK f k o (fun _ => 0#64) n).2) ((orK f k o (fun _ => 0#64) n).1 &&& ((orK f k o (fun _ => 0#64) n).1 ||| (orK f k o (fun _ => 0#64) n).2)) := by
  apply ag_l
  intro j hj hb
  rw [BitVec.getLsbD_or, Bool.or_eq_true] at hb
  cases h1 : (orK f k o (fun _ => 0#64) n).1.getLsbD j with
  | true =>
    obtain ⟨i, a1, a2⟩ := (orK_1 n).mp h1
    simp only [BitVec.xor_zero] at a2
    obtain ⟨a3, a4⟩ := ag_sub (h i a1) a2
    have a5 : f.getLsbD j = true := by
      have := congrArg (fun z => z.getLsbD j) (hf i a1)
      simp only [BitVec.getLsbD_and, a3, Bool.true_and] at this
      exact this
    rw [BitVec.getLsbD_and, a5, Bool.and_true, fold_or ho]
    exact ⟨i, by omega, a4⟩
  | false =>
    rw [h1] at hb
    obtain ⟨b1, b2⟩ := (orK_2 hj n).mp (hb.resolve_left (by decide))
    have : ¬ (foldA g op (n - 1)).getLsbD j = true := by
      rw [fold_or ho]
      rintro ⟨i, c1, c2⟩
      obtain ⟨c3, c4⟩ := b2 i (by omega)
      simp only [BitVec.xor_zero] at c4
      have := ag_k (h i (by omega)) c3
      rw [c2, c4] at this
      cases this
    rw [BitVec.getLsbD_and, Bool.eq_false_iff.mpr this]
    rfl
theorem fold_xor {g k o : Nat → BitVec 64} {f : BitVec 64} {op j : Nat} (ho : op = 16 ∨ op = 25) : ∀ n, (∀ i, i < n + 1 → (g i).getLsbD j = (o i).getLsbD j) → (foldA g op n).getLsbD j = (xorK f k o (n + 1)).2.getLsbD j
  | 0, h => by
    simp only [foldA, xorK, BitVec.getLsbD_xor, h 0 (by decide)]
    simp
  | n + 1, h => by
    have ih := fold_xor (f := f) (k := k) ho n (fun i hi => h i (by omega))
    rw [xorK, BitVec.getLsbD_xor, ← ih, ← h (n + 1) (by omega)]
    simp only [foldA, fop, if_neg (show ¬ (op = 14 ∨ op = 23) by omega), if_neg (show ¬ (op = 15 ∨ op = 24) by omega), if_pos ho, BitVec.getLsbD_xor]
theorem snd_xor {g k o : Nat → BitVec 64} {f : BitVec 64} {n op : Nat} (ho : op = 16 ∨ op = 25) (hn : 1 ≤ n) (h : ∀ i, i < n → ag (g i) (k i) (o i)) :
    ag (foldA g op (n - 1) &&& f) (xorK f k o n).1 ((xorK f k o n).2 &&& (xorK f k o n).1) := by
  apply ag_l
  intro j hj hb
  obtain ⟨a1, a2⟩ := (xorK_1 n).mp hb
  have := fold_xor (g := g) (k := k) (o := o) (f := f) (j := j) ho (n - 1) (fun i hi => ag_k (h i (by omega)) (a2 i (by omega)))
  rw [show n - 1 + 1 = n by omega] at this
  rw [BitVec.getLsbD_and, a1, Bool.and_true, this]
theorem snd_not {x k o f : BitVec 64} (h : ag x k o) (hf : k &&& f = k) : ag (~~~x &&& f) k (~~~o &&& k) := by
  apply ag_l
  intro j hj hb
  have := congrArg (fun z => z.getLsbD j) hf
  simp only [BitVec.getLsbD_and, hb, Bool.true_and] at this
  rw [BitVec.getLsbD_and, this, Bool.and_true, BitVec.getLsbD_not, BitVec.getLsbD_not, ag_k h hb]
theorem snd_ite3 {x y k l o p f : BitVec 64} (c : Prop) (hc : c ∨ ¬ c) (z : BitVec 64) (h1 : c → z = x) (h2 : ¬ c → z = y) (hx : ag x k o) (hy : ag y l p) (hk : k &&& f = k) : ag (z &&& f) (k &&& l &&& ~~~ (o ^^^ p)) (o &&& (k &&& l &&& ~~~ (o ^^^ p))) := by
  apply ag_l
  intro j hj hb
  simp only [BitVec.getLsbD_and, BitVec.getLsbD_not, BitVec.getLsbD_xor, Bool.and_eq_true, decide_eq_true_eq, Bool.not_eq_true'] at hb
  obtain ⟨⟨b1, b2⟩, b3, b4⟩ := hb
  have b5 : o.getLsbD j = p.getLsbD j := by
    revert b4
    cases o.getLsbD j <;> cases p.getLsbD j <;> simp
  have := congrArg (fun z => z.getLsbD j) hk
  simp only [BitVec.getLsbD_and, b1, Bool.true_and] at this
  rw [BitVec.getLsbD_and, this, Bool.and_true]
  rcases hc with hc | hc
  · rw [h1 hc]; exact ag_k hx b1
  · rw [h2 hc, ag_k hy b2, b5]
theorem snd_cut {x k o f : BitVec 64} (h : ag x k o) (hf : k &&& f = k) : ag (x &&& f) k (o &&& k) := by
  apply ag_l
  intro j hj hb
  have := congrArg (fun z => z.getLsbD j) hf
  simp only [BitVec.getLsbD_and, hb, Bool.true_and] at this
  rw [BitVec.getLsbD_and, this, Bool.and_true, ag_k h hb]
/-! sums: carries run upwards -/
theorem bm_min {a b : Nat} : bm a &&& bm b = bm (min a b) := by
  apply BitVec.eq_of_getLsbD_eq
  intro i hi
  rw [BitVec.getLsbD_and, bm_bit, bm_bit, bm_bit]
  simp [hi, Nat.lt_min]
theorem sumK_1 {w : Nat} (hw : w ≤ 64) {k o g : Nat → BitVec 64} {N : Nat} (h : ∀ i, i < N → ag (g i) (k i) (o i)) : ∀ n, n ≤ N → ∃ j, j ≤ w ∧ (sumK (bm w) k o n).1 = bm j ∧ ∀ i, i < n → cg j (g i) (o i)
  | 0, _ => ⟨w, Nat.le_refl _, rfl, fun i hi => absurd hi (Nat.not_lt_zero i)⟩
  | n + 1, hN => by
    obtain ⟨j, h1, h2, h3⟩ := sumK_1 hw h n (by omega)
    obtain ⟨r, r1, r2, r3, -⟩ := lrun_spec (k n)
    refine ⟨min j r, by omega, ?_, fun i hi => ?_⟩
    · simp only [sumK, h2, r2, bm_min]
    · rw [cg_bits]
      intro b hb
      by_cases e : i = n
      · subst e
        exact ag_k (h i (by omega)) (r3 b (by omega))
      · exact cg_bits.mp (h3 i (by omega)) b (by omega)
theorem sumK_2 {k o g : Nat → BitVec 64} {f : BitVec 64} {j : Nat} (hj : j ≤ 64) : ∀ n, (∀ i, i < n + 1 → cg j (g i) (o i)) → cg j (foldA g 26 n) (sumK f k o (n + 1)).2
  | 0, h => by
    have := h 0 (by decide)
    simp only [foldA, sumK, BitVec.zero_add]
    exact this
  | n + 1, h => by
    have ih := sumK_2 (k := k) (f := f) hj n (fun i hi => h i (by omega))
    have := h (n + 1) (by omega)
    rw [sumK]
    have e : foldA g 26 (n + 1) = foldA g 26 n + g (n + 1) := rfl
    rw [e]
    exact cg_add hj ih this
theorem snd_sum {g k o : Nat → BitVec 64} {n w : Nat} (hw : w ≤ 64) (hn : 1 ≤ n) (h : ∀ i, i < n → ag (g i) (k i) (o i)) :
    ag (foldA g 26 (n - 1) &&& bm w) (sumK (bm w) k o n).1 ((sumK (bm w) k o n).2 &&& (sumK (bm w) k o n).1) := by
  obtain ⟨j, h1, h2, h3⟩ := sumK_1 hw h n (Nat.le_refl _)
  have h4 := sumK_2 (g := g) (k := k) (o := o) (f := bm w) (j := j) (by omega) (n - 1) (fun i hi => h3 i (by omega))
  rw [show n - 1 + 1 = n by omega] at h4
  rw [h2]
  apply ag_l
  intro b hb hk
  rw [bm_bit] at hk
  simp at hk
  rw [BitVec.getLsbD_and, bm_bit]
  rw [cg_bits.mp h4 b hk.1, decide_eq_true (show b < w by omega), decide_eq_true hb, Bool.and_self, Bool.and_true]
theorem snd_run {k z y f : BitVec 64} {w : Nat} (hf : f = bm w) (hw : w ≤ 64) (hz : ∀ j, j ≤ 64 → (∀ i, i < j → k.getLsbD i = true) → cg j z y) (hk : k &&& f = k) : ag (z &&& f) (lrun k) (y &&& lrun k) := by
  obtain ⟨r, r1, r2, r3, -⟩ := lrun_spec k
  have h4 := hz r r1 r3
  rw [r2]
  apply ag_l
  intro b hb hr
  rw [bm_bit] at hr
  simp at hr
  have h5 := r3 b hr.1
  have h6 := congrArg (fun z => z.getLsbD b) hk
  simp only [BitVec.getLsbD_and, h5, Bool.true_and] at h6
  rw [BitVec.getLsbD_and, h6, Bool.and_true]
  exact cg_bits.mp h4 b hr.1
theorem impl_bit {h : Nat → BitVec 64} {j : Nat} (hj : j < 64) : ∀ m, (implA h m).getLsbD j = true ↔ (h 0).getLsbD j = true ∨ ∃ i, 1 ≤ i ∧ i ≤ m ∧ (h i).getLsbD j = false
  | 0 => ⟨fun q => Or.inl q, fun q => q.elim id (fun ⟨i, a, b, _⟩ => absurd a (by omega))⟩
  | m + 1 => by
    simp only [implA, BitVec.getLsbD_or, BitVec.getLsbD_not, Bool.or_eq_true, Bool.and_eq_true, decide_eq_true_eq, Bool.not_eq_true', impl_bit hj m]
    constructor
    · rintro ((q | ⟨i, a, b, c⟩) | ⟨_, q⟩)
      · exact Or.inl q
      · exact Or.inr ⟨i, a, by omega, c⟩
      · exact Or.inr ⟨m + 1, by omega, by omega, q⟩
    · rintro (q | ⟨i, a, b, c⟩)
      · exact Or.inl (Or.inl q)
      · by_cases e : i = m + 1
        · subst e; exact Or.inr ⟨hj, c⟩
        · exact Or.inl (Or.inr ⟨i, a, by omega, c⟩)
def tnI (k : Nat → BitVec 64) (n : Nat) : Nat → BitVec 64 := fun i => if i + 1 < n then k i else 0#64
theorem snd_impl {g k o : Nat → BitVec 64} {f : BitVec 64} {n : Nat} (hn : 1 ≤ n) (h : ∀ i, i < n → ag (g i) (k i) (o i)) (hf : ∀ i, i < n → k i &&& f = k i) :
    ag (implA (fun i => g (n - 1 - i)) (n - 1) &&& f) ((orK f k o (tnI k n) n).1 ||| (orK f k o (tnI k n) n).2) ((orK f k o (tnI k n) n).1 &&& ((orK f k o (tnI k n) n).1 ||| (orK f k o (tnI k n) n).2)) := by
  apply ag_l
  intro j hj hb
  rw [BitVec.getLsbD_or, Bool.or_eq_true] at hb
  cases h1 : (orK f k o (tnI k n) n).1.getLsbD j with
  | true =>
    obtain ⟨i, a1, a2⟩ := (orK_1 n).mp h1
    have hi := h i a1
    have a3 : (k i).getLsbD j = true ∧ (implA (fun i => g (n - 1 - i)) (n - 1)).getLsbD j = true := by
      rw [impl_bit hj]
      unfold tnI at a2
      by_cases e : i + 1 < n
      · rw [if_pos e, BitVec.getLsbD_xor] at a2
        cases ho : (o i).getLsbD j with
        | true =>
          rw [ho, (ag_sub hi ho).1] at a2
          cases a2
        | false =>
          rw [ho, Bool.false_xor] at a2
          refine ⟨a2, Or.inr ⟨n - 1 - i, by omega, by omega, ?_⟩⟩
          show (g (n - 1 - (n - 1 - i))).getLsbD j = false
          rw [show n - 1 - (n - 1 - i) = i by omega, ag_k hi a2, ho]
      · rw [if_neg e, BitVec.xor_zero] at a2
        obtain ⟨b1, b2⟩ := ag_sub hi a2
        refine ⟨b1, Or.inl ?_⟩
        show (g (n - 1 - 0)).getLsbD j = true
        rw [show n - 1 - 0 = i by omega]
        exact b2
    have a5 := congrArg (fun z => z.getLsbD j) (hf i a1)
    simp only [BitVec.getLsbD_and, a3.1, Bool.true_and] at a5
    rw [BitVec.getLsbD_and, a5, a3.2]
    rfl
  | false =>
    rw [h1] at hb
    obtain ⟨b1, b2⟩ := (orK_2 hj n).mp (hb.resolve_left (by decide))
    have : ¬ (implA (fun i => g (n - 1 - i)) (n - 1)).getLsbD j = true := by
      rw [impl_bit hj]
      rintro (q | ⟨i, c1, c2, c3⟩)
      · have q : (g (n - 1 - 0)).getLsbD j = true := q
        obtain ⟨d1, d2⟩ := b2 (n - 1) (by omega)
        unfold tnI at d2
        rw [if_neg (by omega), BitVec.xor_zero] at d2
        rw [show n - 1 - 0 = n - 1 by omega, ag_k (h (n - 1) (by omega)) d1, d2] at q
        cases q
      · have c3 : (g (n - 1 - i)).getLsbD j = false := c3
        obtain ⟨d1, d2⟩ := b2 (n - 1 - i) (by omega)
        unfold tnI at d2
        rw [if_pos (by omega), BitVec.getLsbD_xor, d1] at d2
        rw [ag_k (h (n - 1 - i) (by omega)) d1] at c3
        rw [c3] at d2
        cases d2
    rw [BitVec.getLsbD_and, Bool.eq_false_iff.mpr this]
    rfl
/-! shifts, parts -/
theorem snd_shr {x k o f : BitVec 64} {s : Nat} (h : ag x k o) : ag ((x >>> s) &&& f) ((k >>> s) &&& f) ((o >>> s) &&& ((k >>> s) &&& f)) := by
  apply ag_l
  intro j hj hb
  simp only [BitVec.getLsbD_and, BitVec.getLsbD_ushiftRight, Bool.and_eq_true] at hb
  rw [BitVec.getLsbD_and, hb.2, Bool.and_true, BitVec.getLsbD_ushiftRight, BitVec.getLsbD_ushiftRight, ag_k h hb.1]
theorem snd_shl {x k o f : BitVec 64} {s : Nat} (h : ag x k o) : ag ((x <<< s) &&& f) (((k <<< s) ||| bm s) &&& f) ((o <<< s) &&& (((k <<< s) ||| bm s) &&& f)) := by
  apply ag_l
  intro j hj hb
  simp only [BitVec.getLsbD_and, BitVec.getLsbD_or, BitVec.getLsbD_shiftLeft, bm_bit, Bool.and_eq_true, Bool.or_eq_true, decide_eq_true_eq, Bool.not_eq_true', decide_eq_false_iff_not] at hb
  rw [BitVec.getLsbD_and, hb.2, Bool.and_true, BitVec.getLsbD_shiftLeft, BitVec.getLsbD_shiftLeft]
  by_cases e : j < s
  · simp [e]
  · rcases hb.1 with q | q
    · rw [ag_k h q.2]
    · exact absurd q.1 e
theorem snd_zext {x k o f g : BitVec 64} (h : ag x k o) (hx : x &&& g = x) (hf : k &&& f = k) : ag (x &&& f) (k ||| (f &&& ~~~ g)) (o &&& (k ||| (f &&& ~~~ g))) := by
  apply ag_l
  intro j hj hb
  simp only [BitVec.getLsbD_or, BitVec.getLsbD_and, BitVec.getLsbD_not, Bool.and_eq_true, Bool.or_eq_true, decide_eq_true_eq, Bool.not_eq_true'] at hb
  cases hk : k.getLsbD j with
  | true =>
    have a5 := congrArg (fun z => z.getLsbD j) hf
    simp only [BitVec.getLsbD_and, hk, Bool.true_and] at a5
    rw [BitVec.getLsbD_and, a5, Bool.and_true, ag_k h hk]
  | false =>
    rw [hk] at hb
    have q := hb.resolve_left (by decide)
    have a5 := congrArg (fun z => z.getLsbD j) hx
    simp only [BitVec.getLsbD_and, q.2.2, Bool.and_false] at a5
    rw [BitVec.getLsbD_and, ← a5, ag_n h hk]
    rfl
