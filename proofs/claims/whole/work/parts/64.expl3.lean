section ST3
variable {B : Bk} {t J : Nat} {A : Nat → BitVec 64}
theorem st_sel (w : wfB B) (ht : t < bma B) (hf : sbs (A t) (bful B t)) (z : bop B t = 45) (hS : bsz B ≤ 16) (h1 : sbs (bful B (bar B (bfi B t + 1))) (A (bar B (bfi B t + 1))))
    (h2 : sbs (A t <<< csh (bso B (bar B (bfi B t))) (ev B J (bar B (bfi B t + 1))).toNat) (A (bar B (bfi B t)))) : stOK B J A t := by
  intro kn on hA
  have y := ty_45 (wf_ty w ht) z
  obtain ⟨f1, f2, f3⟩ := wf_fi w ht
  have lt0 := wf_ar w ht (Nat.le_refl _) (show bfi B t < bfi B (t + 1) by omega)
  have os := wf_so w (show bar B (bfi B t) < bma B by omega)
  have sz := (w.2.2.2.1 (bar B (bfi B t)) (by omega)).2.2 y.2.1
  have a0 : arOk B (ev B J) kn on (bar B (bfi B t)) ∧ sbs (A (bar B (bfi B t))) (kn (bar B (bfi B t))) := hA 0 (by omega)
  have a1 := hA 1 (by omega)
  have e := kn_full a1.1 a1.2 h1
  have cw := csh_w (c := (ev B J (bar B (bfi B t + 1))).toNat) y.2.1 os
  rw [ck_45 z, if_pos e, ag_all a1.1.1 e a1.1.2.2]
  refine sbs.of fun j hj hb => ?_
  have jf := hf.b hb
  rw [BitVec.getLsbD_and, jf, Bool.and_true, BitVec.getLsbD_ushiftRight]
  rw [bful_v (by unfold okS at os; omega) (by unfold okS at os; omega), bm_bit] at jf
  simp at jf
  refine a0.2.b (h2.b ?_)
  rw [BitVec.getLsbD_shiftLeft]
  simp [show csh (bso B (bar B (bfi B t))) (ev B J (bar B (bfi B t + 1))).toNat + j < 64 by omega, hb]
theorem st_sto (w : wfB B) (ht : t < bma B) (hf : sbs (A t) (bful B t)) (z : bop B t = 46) (h1 : sbs (bful B (bar B (bfi B t + 1))) (A (bar B (bfi B t + 1))))
    (h2 : sbs ((A t >>> csh (bso B (bar B (bfi B t))) (ev B J (bar B (bfi B t + 1))).toNat) &&& bful B (bar B (bfi B t + 2))) (A (bar B (bfi B t + 2))))
    (h3 : sbs (A t &&& ~~~ (bful B (bar B (bfi B t + 2)) <<< csh (bso B (bar B (bfi B t))) (ev B J (bar B (bfi B t + 1))).toNat)) (A (bar B (bfi B t)))) : stOK B J A t := by
  intro kn on hA
  have y := ty_46 (wf_ty w ht) z
  have a0 : arOk B (ev B J) kn on (bar B (bfi B t)) ∧ sbs (A (bar B (bfi B t))) (kn (bar B (bfi B t))) := hA 0 (by omega)
  have a1 := hA 1 (by omega)
  have a2 := hA 2 (by omega)
  have e := kn_full a1.1 a1.2 h1
  rw [ck_46 z, if_pos e, ag_all a1.1.1 e a1.1.2.2, y.2.2.2.2]
  generalize csh (bso B (bar B (bfi B t))) (ev B J (bar B (bfi B t + 1))).toNat = s at *
  refine sbs.of fun j hj hb => ?_
  rw [BitVec.getLsbD_or, Bool.or_eq_true]
  cases q : (bful B (bar B (bfi B t + 2)) <<< s).getLsbD j with
  | false =>
    left
    have q2 : (A t &&& ~~~ (bful B (bar B (bfi B t + 2)) <<< s)).getLsbD j = true := by rw [BitVec.getLsbD_and, BitVec.getLsbD_not, hb, q]; simp [hj]
    rw [BitVec.getLsbD_and, BitVec.getLsbD_not, q, a0.2.b (h3.b q2)]
    simp [hj]
  | true =>
    right
    rw [BitVec.getLsbD_shiftLeft] at q
    simp at q
    have q2 : ((A t >>> s) &&& bful B (bar B (bfi B t + 2))).getLsbD (j - s) = true := by
      rw [BitVec.getLsbD_and, BitVec.getLsbD_ushiftRight, q.2, show s + (j - s) = j by omega, hb]; rfl
    rw [BitVec.getLsbD_shiftLeft, sbs.b a2.2 (h2.b q2)]
    simp [hj]
    omega
/-- what is left of the bits before argument n, counted from the last one on -/
def catR (w : Nat → Nat) (x : BitVec 64) (N : Nat) : Nat → BitVec 64
  | 0 => x
  | d + 1 => catR w x N d >>> w (N - 1 - d)
theorem cat_full {k o : Nat → BitVec 64} {w : Nat → Nat} {x : BitVec 64} {N : Nat} (h : ∀ d, d < N → ∀ j, j < w (N - 1 - d) → (catR w x N d).getLsbD j = true → (k (N - 1 - d)).getLsbD j = true) (h0 : catR w x N N = 0#64) : ∀ n d, n + d = N → sbs (catR w x N d) (catK k o w n).1
  | 0, d, e => by
    have : d = N := by omega
    rw [this, h0]
    exact sbs.zero _
  | n + 1, d, e => by
    have ih := cat_full (o := o) h h0 n (d + 1) (by omega)
    have e2 : N - 1 - d = n := by omega
    have hd := h d (by omega)
    rw [e2] at hd
    unfold catR at ih
    rw [e2] at ih
    refine sbs.of fun j hj hb => ?_
    simp only [catK, BitVec.getLsbD_or, BitVec.getLsbD_shiftLeft]
    by_cases q : j < w n
    · rw [hd j q hb, Bool.or_true]
    · have := ih.b (i := j - w n) (by rw [BitVec.getLsbD_ushiftRight, show w n + (j - w n) = j by omega]; exact hb)
      rw [this]
      simp [hj, q]
theorem catR_bit {w : Nat → Nat} {x : BitVec 64} {N : Nat} : ∀ d, d ≤ N → ∀ j, (catR w x N d).getLsbD j = x.getLsbD (((List.range d).map (fun i => w (N - 1 - i))).sum + j)
  | 0, _, j => by simp [catR]
  | d + 1, hd, j => by
    rw [catR, BitVec.getLsbD_ushiftRight, catR_bit d (by omega), List.range_succ, List.map_append, List.sum_append]
    simp only [List.map_cons, List.map_nil, List.sum_cons, List.sum_nil, Nat.add_zero]
    congr 1
    omega
theorem sum_rev (w : Nat → Nat) : ∀ N, ((List.range N).map (fun i => w (N - 1 - i))).sum = ((List.range N).map w).sum
  | 0 => rfl
  | N + 1 => by
    rw [List.range_succ_eq_map, List.map_cons, List.sum_cons, List.map_map]
    have e : (List.map ((fun i => w (N + 1 - 1 - i)) ∘ Nat.succ) (List.range N)) = List.map (fun i => w (N - 1 - i)) (List.range N) := by
      apply List.map_congr_left
      intro i hi
      show w (N + 1 - 1 - (i + 1)) = w (N - 1 - i)
      congr 1
      omega
    rw [e, sum_rev w N, ← List.range_succ_eq_map, List.range_succ, List.map_append, List.sum_append]
    simp only [List.map_cons, List.map_nil, List.sum_cons, List.sum_nil, Nat.add_zero]
    rw [show N + 1 - 1 - 0 = N by omega]
    omega
theorem st_cat (w : wfB B) (ht : t < bma B) (hf : sbs (A t) (bful B t)) (z : bop B t = 44)
    (h : ∀ d, d < bfi B (t + 1) - bfi B t → sbs (catR (fun i => bso B (bar B (bfi B t + i))) (A t) (bfi B (t + 1) - bfi B t) d &&& bful B (bar B (bfi B t + (bfi B (t + 1) - bfi B t - 1 - d)))) (A (bar B (bfi B t + (bfi B (t + 1) - bfi B t - 1 - d))))) : stOK B J A t := by
  intro kn on hA
  have y := ty_44 (wf_ty w ht) z
  rw [ck_44 z]
  refine cat_full (x := A t) (N := bfi B (t + 1) - bfi B t) (fun d hd j hj hb => ?_) ?_ (bfi B (t + 1) - bfi B t) 0 (by omega)
  · have yb := y.2.1 (bfi B (t + 1) - bfi B t - 1 - d) (by omega)
    refine sbs.b (hA (bfi B (t + 1) - bfi B t - 1 - d) (by omega)).2 ((h d hd).b ?_)
    rw [BitVec.getLsbD_and, hb, bful_v yb.1 (by omega), bm_bit]
    have hj : j < bso B (bar B (bfi B t + (bfi B (t + 1) - bfi B t - 1 - d))) := hj
    simp [hj]
    omega
  · apply BitVec.eq_of_getLsbD_eq
    intro j hj
    rw [catR_bit _ (Nat.le_refl _), sum_rev (fun i => bso B (bar B (bfi B t + i)))]
    rw [BitVec.getLsbD_zero]
    cases q : (A t).getLsbD (((List.range (bfi B (t + 1) - bfi B t)).map (fun i => bso B (bar B (bfi B t + i)))).sum + j) with
    | false => rfl
    | true =>
      have := hf.b q
      have hs : 1 ≤ bso B t := by
        apply Classical.byContradiction
        intro n
        have h0 : bso B t = 0 := by omega
        have := (y.2.1 0 (by omega)).1
        have hsum := y.2.2.1
        obtain ⟨n, hn⟩ : ∃ n, bfi B (t + 1) - bfi B t = n + 1 := ⟨_, (Nat.succ_pred (by omega)).symm⟩
        rw [hn, List.range_succ_eq_map, List.map_cons, List.sum_cons, h0] at hsum
        have : 1 ≤ bso B (bar B (bfi B t + 0)) := this
        omega
      rw [bful_v hs y.2.2.2, bm_bit, y.2.2.1] at this
      simp at this
      omega
/-! comparisons -/
theorem bits_lt {x y : BitVec 64} {h : Nat} (hh : h < 64) (h1 : ∀ i, h < i → i < 64 → x.getLsbD i = y.getLsbD i) (hx : x.getLsbD h = false) (hy : y.getLsbD h = true) : x.toNat < y.toNat := by
  have e : x.toNat / 2 ^ (h + 1) = y.toNat / 2 ^ (h + 1) := by
    apply Nat.eq_of_testBit_eq
    intro i
    rw [Nat.testBit_div_two_pow, Nat.testBit_div_two_pow]
    by_cases q : i + (h + 1) < 64
    · exact h1 _ (by omega) q
    · have a := BitVec.getLsbD_of_ge x (i + (h + 1)) (by omega)
      have b := BitVec.getLsbD_of_ge y (i + (h + 1)) (by omega)
      exact a.trans b.symm
  have ex : x.toNat / 2 ^ h % 2 = 0 := by
    rw [BitVec.getLsbD, Nat.testBit_eq_decide_div_mod_eq] at hx
    simp at hx
    omega
  have ey : y.toNat / 2 ^ h % 2 = 1 := by
    rw [BitVec.getLsbD, Nat.testBit_eq_decide_div_mod_eq] at hy
    simp at hy
    omega
  have dx : x.toNat / 2 ^ (h + 1) = x.toNat / 2 ^ h / 2 := by rw [Nat.pow_succ, Nat.div_div_eq_div_mul]
  have dy : y.toNat / 2 ^ (h + 1) = y.toNat / 2 ^ h / 2 := by rw [Nat.pow_succ, Nat.div_div_eq_div_mul]
  have q : x.toNat / 2 ^ h < y.toNat / 2 ^ h := by omega
  exact Nat.lt_of_div_lt_div q
theorem ex_high {d : BitVec 64} (hd : d ≠ 0#64) : ∃ h, h < 64 ∧ d.getLsbD h = true ∧ ∀ i, h < i → d.getLsbD i = false := by
  have key : ∀ n, n ≤ 64 → (∀ i, n ≤ i → d.getLsbD i = false) → ∃ h, h < 64 ∧ d.getLsbD h = true ∧ ∀ i, h < i → d.getLsbD i = false := by
    intro n
    induction n with
    | zero =>
      intro _ h
      refine absurd (BitVec.eq_of_getLsbD_eq (fun i _ => ?_)) hd
      rw [h i (by omega)]; simp
    | succ n ih =>
      intro hn h
      cases e : d.getLsbD n with
      | true => exact ⟨n, by omega, e, fun i hi => h i (by omega)⟩
      | false =>
        refine ih (by omega) (fun i hi => ?_)
        by_cases q : i = n
        · rw [q]; exact e
        · exact h i (by omega)
  exact key 64 (Nat.le_refl _) (fun i hi => BitVec.getLsbD_of_ge d i hi)
/-- x below y by what is known of both from the highest bit on that differs -/
theorem mst_lst {x y k l o p T f : BitVec 64} {h : Nat} (hx : ag x k o) (hy : ag y l p) (hh : h < 64) (kx : ∀ i, h ≤ i → i < 64 → f.getLsbD i = true → k.getLsbD i = true) (ky : ∀ i, h ≤ i → i < 64 → f.getLsbD i = true → l.getLsbD i = true) (fx : sbs x f) (fy : sbs y f) (fT : sbs T f) (fh : f.getLsbD h = true) (up : ∀ i, h < i → x.getLsbD i = y.getLsbD i) (dx : (x ^^^ T).getLsbD h = false) (dy : (y ^^^ T).getLsbD h = true) (kf : sbs k f) (lf : sbs l f) : (mst k o T f).toNat < (lst l p T).toNat := by
  have vx : ∀ i, i < 64 → h ≤ i → (mst k o T f).getLsbD i = (x ^^^ T).getLsbD i := by
    intro i hi hhi
    simp only [mst, lst, BitVec.getLsbD_or, BitVec.getLsbD_and, BitVec.getLsbD_xor, BitVec.getLsbD_not, hi, decide_true, Bool.true_and]
    cases e : f.getLsbD i with
    | true =>
      have k1 := kx i hhi hi e
      rw [ag_bit hx k1, k1]
      simp
    | false =>
      have x0 : x.getLsbD i = false := by cases q : x.getLsbD i with
        | false => rfl
        | true => rw [fx.b q] at e; cases e
      have t0 : T.getLsbD i = false := by cases q : T.getLsbD i with
        | false => rfl
        | true => rw [fT.b q] at e; cases e
      have k0 : k.getLsbD i = false := by cases q : k.getLsbD i with
        | false => rfl
        | true => rw [kf.b q] at e; cases e
      rw [ag_n hx k0, x0, t0]
      simp
  have vy : ∀ i, i < 64 → h ≤ i → (lst l p T).getLsbD i = (y ^^^ T).getLsbD i := by
    intro i hi hhi
    simp only [lst, BitVec.getLsbD_and, BitVec.getLsbD_xor]
    cases e : f.getLsbD i with
    | true =>
      have k1 := ky i hhi hi e
      rw [ag_bit hy k1, k1]
      simp
    | false =>
      have x0 : y.getLsbD i = false := by cases q : y.getLsbD i with
        | false => rfl
        | true => rw [fy.b q] at e; cases e
      have t0 : T.getLsbD i = false := by cases q : T.getLsbD i with
        | false => rfl
        | true => rw [fT.b q] at e; cases e
      have k0 : l.getLsbD i = false := by cases q : l.getLsbD i with
        | false => rfl
        | true => rw [lf.b q] at e; cases e
      rw [ag_n hy k0, x0, t0]
      simp
  refine bits_lt hh (fun i h1 h2 => ?_) ((vx h hh (Nat.le_refl _)).trans dx) ((vy h hh (Nat.le_refl _)).trans dy)
  rw [vx i h2 (by omega), vy i h2 (by omega), BitVec.getLsbD_xor, BitVec.getLsbD_xor, up i h1]
theorem cmK_lt {op : Nat} {la ma lb mb : BitVec 64} (h : ma.toNat < lb.toNat) : (cmK op la ma lb mb).1 = true ∨ (cmK op la ma lb mb).2 = true := by
  have h1 : ltB ma lb = true := decide_eq_true h
  have h2 : (!ltB lb ma) = true := by unfold ltB; rw [decide_eq_false (by omega)]; rfl
  unfold cmK
  split
  · exact Or.inl h1
  · split
    · exact Or.inl h2
    · split
      · exact Or.inr h2
      · exact Or.inr h1
theorem cmK_gt {op : Nat} {la ma lb mb : BitVec 64} (h : mb.toNat < la.toNat) : (cmK op la ma lb mb).1 = true ∨ (cmK op la ma lb mb).2 = true := by
  have h1 : ltB mb la = true := decide_eq_true h
  have h2 : (!ltB la mb) = true := by unfold ltB; rw [decide_eq_false (by omega)]; rfl
  unfold cmK
  split
  · exact Or.inr h2
  · split
    · exact Or.inr h1
    · split
      · exact Or.inl h1
      · exact Or.inl h2
theorem cmK_eq {op : Nat} {x y : BitVec 64} : (cmK op x x y y).1 = true ∨ (cmK op x x y y).2 = true := by
  unfold cmK
  split
  · cases ltB x y <;> simp
  · split
    · cases ltB y x <;> simp
    · split
      · cases ltB y x <;> simp
      · cases ltB x y <;> simp
theorem mst_full {k o T f : BitVec 64} (h : k = f) : mst k o T f = lst k o T := by
  unfold mst
  rw [h, BitVec.and_not_self]
  exact BitVec.or_zero
theorem st_cmp (w : wfB B) (ht : t < bma B) (hf : sbs (A t) (bful B t)) (z : 36 ≤ bop B t ∧ bop B t ≤ 43)
    (h : ∀ i, i < bfi B (t + 1) - bfi B t → sbs (bful B (bar B (bfi B t)) &&& ~~~ (upT (ev B J (bar B (bfi B t)) ^^^ ev B J (bar B (bfi B t + 1))) >>> 1)) (A (bar B (bfi B t + i)))) : stOK B J A t := by
  intro kn on hA
  have ty := wf_ty w ht
  have key : ∀ op, ((bfi B (t + 1) - bfi B t) = 2 ∧ bso B (bar B (bfi B t)) = bso B (bar B (bfi B t + 1)) ∧ 1 ≤ bso B (bar B (bfi B t)) ∧ bso B (bar B (bfi B t)) ≤ 64 ∧ (bso B t) = 0) →
      sbs (A t) (eiK (cmK op (lst (kn (bar B (bfi B t))) (on (bar B (bfi B t))) (turn op (bso B (bar B (bfi B t))))) (mst (kn (bar B (bfi B t))) (on (bar B (bfi B t))) (turn op (bso B (bar B (bfi B t)))) (bful B (bar B (bfi B t)))) (lst (kn (bar B (bfi B t + 1))) (on (bar B (bfi B t + 1))) (turn op (bso B (bar B (bfi B t))))) (mst (kn (bar B (bfi B t + 1))) (on (bar B (bfi B t + 1))) (turn op (bso B (bar B (bfi B t)))) (bful B (bar B (bfi B t + 1)))))).1 := by
    intro op y
    rw [bful_0 y.2.2.2.2] at hf
    have a0 : arOk B (ev B J) kn on (bar B (bfi B t)) ∧ sbs (A (bar B (bfi B t))) (kn (bar B (bfi B t))) := hA 0 (by omega)
    have a1 := hA 1 (by omega)
    have f2 : bful B (bar B (bfi B t + 1)) = bful B (bar B (bfi B t)) := (bful_eq y.2.1).symm
    have f1 : bful B (bar B (bfi B t)) = bm (bso B (bar B (bfi B t))) := bful_v (by omega) (by omega)
    have ts : sbs (turn op (bso B (bar B (bfi B t)))) (bful B (bar B (bfi B t))) := by rw [f1]; exact turn_sub y.2.2.1 y.2.2.2.1
    have q0 : sbs (bful B (bar B (bfi B t)) &&& ~~~ (upT (ev B J (bar B (bfi B t)) ^^^ ev B J (bar B (bfi B t + 1))) >>> 1)) (kn (bar B (bfi B t))) := (h 0 (by omega)).trans a0.2
    have q1 : sbs (bful B (bar B (bfi B t)) &&& ~~~ (upT (ev B J (bar B (bfi B t)) ^^^ ev B J (bar B (bfi B t + 1))) >>> 1)) (kn (bar B (bfi B t + 1))) := (h 1 (by omega)).trans a1.2
    rw [f2]
    have a12 := a1.1.2
    rw [f2] at a12
    rw [ei_t1]
    · exact hf
    · by_cases e : ev B J (bar B (bfi B t)) ^^^ ev B J (bar B (bfi B t + 1)) = 0#64
      · have u0 : upT (0#64) = 0#64 := by decide
        rw [e, u0, show ~~~ (0#64 >>> 1) = BitVec.allOnes 64 by decide, BitVec.and_allOnes] at q0 q1
        have g0 : kn (bar B (bfi B t)) = bful B (bar B (bfi B t)) := by
          have s0 : sbs (bful B (bar B (bfi B t))) (kn (bar B (bfi B t))) := q0
          unfold sbs at s0
          rw [← s0, BitVec.and_comm]
          exact a0.1.2.1.symm
        have g1 : kn (bar B (bfi B t + 1)) = bful B (bar B (bfi B t)) := by
          have s0 : sbs (bful B (bar B (bfi B t))) (kn (bar B (bfi B t + 1))) := q1
          unfold sbs at s0
          rw [← s0, BitVec.and_comm]
          exact a12.1.symm
        rw [mst_full g0, mst_full g1]
        exact cmK_eq
      · obtain ⟨hh, h1, h2, h3⟩ := ex_high e
        have hid : ∀ i, hh ≤ i → i < 64 → (bful B (bar B (bfi B t))).getLsbD i = true → (bful B (bar B (bfi B t)) &&& ~~~ (upT (ev B J (bar B (bfi B t)) ^^^ ev B J (bar B (bfi B t + 1))) >>> 1)).getLsbD i = true := by
          intro i i1 i2 i3
          rw [BitVec.getLsbD_and, BitVec.getLsbD_not, BitVec.getLsbD_ushiftRight, i3]
          have : ¬ (upT (ev B J (bar B (bfi B t)) ^^^ ev B J (bar B (bfi B t + 1)))).getLsbD (1 + i) = true := by
            rw [upT_bit]
            rintro ⟨j, j1, j2⟩
            rw [h3 j (by omega)] at j2
            cases j2
          rw [Bool.eq_false_iff.mpr this]
          simp [i2]
        have up : ∀ i, hh < i → (ev B J (bar B (bfi B t))).getLsbD i = (ev B J (bar B (bfi B t + 1))).getLsbD i := by
          intro i hi
          have := h3 i hi
          rw [BitVec.getLsbD_xor] at this
          revert this
          cases (ev B J (bar B (bfi B t))).getLsbD i <;> cases (ev B J (bar B (bfi B t + 1))).getLsbD i <;> simp
        have fh : (bful B (bar B (bfi B t))).getLsbD hh = true := by
          have h2' := h2
          rw [BitVec.getLsbD_xor] at h2'
          cases q : (ev B J (bar B (bfi B t))).getLsbD hh with
          | true => exact bits_sub a0.1.2.2 q
          | false =>
            rw [q, Bool.false_xor] at h2'
            exact bits_sub a12.2 h2'
        rw [BitVec.getLsbD_xor] at h2
        have T := (turn op (bso B (bar B (bfi B t)))).getLsbD hh
        cases dx : (ev B J (bar B (bfi B t)) ^^^ turn op (bso B (bar B (bfi B t)))).getLsbD hh with
        | false =>
          have dy : (ev B J (bar B (bfi B t + 1)) ^^^ turn op (bso B (bar B (bfi B t)))).getLsbD hh = true := by
            rw [BitVec.getLsbD_xor] at dx ⊢
            revert dx h2
            cases (ev B J (bar B (bfi B t))).getLsbD hh <;> cases (ev B J (bar B (bfi B t + 1))).getLsbD hh <;> cases (turn op (bso B (bar B (bfi B t)))).getLsbD hh <;> simp
          exact cmK_lt (mst_lst a0.1.1 a1.1.1 h1 (fun i i1 i2 i3 => q0.b (hid i i1 i2 i3)) (fun i i1 i2 i3 => q1.b (hid i i1 i2 i3)) a0.1.2.2 a12.2 ts fh up dx dy a0.1.2.1 a12.1)
        | true =>
          have dy : (ev B J (bar B (bfi B t + 1)) ^^^ turn op (bso B (bar B (bfi B t)))).getLsbD hh = false := by
            rw [BitVec.getLsbD_xor] at dx ⊢
            revert dx h2
            cases (ev B J (bar B (bfi B t))).getLsbD hh <;> cases (ev B J (bar B (bfi B t + 1))).getLsbD hh <;> cases (turn op (bso B (bar B (bfi B t)))).getLsbD hh <;> simp
          exact cmK_gt (mst_lst a1.1.1 a0.1.1 h1 (fun i i1 i2 i3 => q1.b (hid i i1 i2 i3)) (fun i i1 i2 i3 => q0.b (hid i i1 i2 i3)) a12.2 a0.1.2.2 ts fh (fun i hi => (up i hi).symm) dy dx a12.1 a0.1.2.1)
  have z' : bop B t = 36 ∨ bop B t = 37 ∨ bop B t = 38 ∨ bop B t = 39 ∨ bop B t = 40 ∨ bop B t = 41 ∨ bop B t = 42 ∨ bop B t = 43 := by omega
  rcases z' with z | z | z | z | z | z | z | z
  · rw [ck_36 z]; exact key 36 (ty_36 ty z)
  · rw [ck_37 z]; exact key 37 (ty_37 ty z)
  · rw [ck_38 z]; exact key 38 (ty_38 ty z)
  · rw [ck_39 z]; exact key 39 (ty_39 ty z)
  · rw [ck_40 z]; exact key 40 (ty_40 ty z)
  · rw [ck_41 z]; exact key 41 (ty_41 ty z)
  · rw [ck_42 z]; exact key 42 (ty_42 ty z)
  · rw [ck_43 z]; exact key 43 (ty_43 ty z)
end ST3
