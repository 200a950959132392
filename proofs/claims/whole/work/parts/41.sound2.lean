theorem sgn_bit {a : BitVec 64} {w j : Nat} (h1 : 1 ≤ w) (h2 : w ≤ 64) (hj : j < 64) : (sgn a w).getLsbD j = a.getLsbD (if j < w then j else w - 1) := by
  unfold sgn
  rw [BitVec.getLsbD_sshiftRight, BitVec.msb_eq_getLsbD_last, BitVec.getLsbD_shiftLeft, BitVec.getLsbD_shiftLeft]
  by_cases e : j < w
  · rw [if_pos e, if_pos (by omega)]
    simp [show ¬ 64 ≤ j by omega, show 64 - w + j < 64 by omega, show ¬ 64 - w + j < 64 - w by omega, show 64 - w + j - (64 - w) = j by omega]
  · rw [if_neg e, if_neg (by omega)]
    simp [show ¬ 64 ≤ j by omega, show ¬ 63 < 64 - w by omega, show 63 - (64 - w) = w - 1 by omega]
theorem snd_sext {x k o f : BitVec 64} {w : Nat} (h1 : 1 ≤ w) (h2 : w ≤ 64) (h : ag x k o) : ag (sgn x w &&& f) (sgn k w &&& f) (sgn o w &&& (sgn k w &&& f)) := by
  apply ag_l
  intro j hj hb
  rw [BitVec.getLsbD_and, Bool.and_eq_true, sgn_bit h1 h2 hj] at hb
  rw [BitVec.getLsbD_and, hb.2, Bool.and_true, sgn_bit h1 h2 hj, sgn_bit h1 h2 hj, ag_k h hb.1]
theorem snd_ashr {x k o f : BitVec 64} {w s : Nat} (h1 : 1 ≤ w) (h2 : w ≤ 64) (h : ag x k o) : ag ((sgn x w).sshiftRight s &&& f) ((sgn k w).sshiftRight s &&& f) ((sgn o w).sshiftRight s &&& ((sgn k w).sshiftRight s &&& f)) := by
  have key : ∀ v : BitVec 64, ∀ j, j < 64 → ((sgn v w).sshiftRight s).getLsbD j = v.getLsbD (if s + j < w then s + j else w - 1) := by
    intro v j hj
    rw [BitVec.getLsbD_sshiftRight, BitVec.msb_eq_getLsbD_last]
    by_cases e : s + j < 64
    · rw [if_pos e, sgn_bit h1 h2 e]
      simp [show ¬ 64 ≤ j by omega]
    · rw [if_neg e, sgn_bit h1 h2 (by decide), if_neg (show ¬ s + j < w by omega)]
      by_cases e2 : 64 - 1 < w
      · rw [if_pos e2, show w - 1 = 64 - 1 by omega]
        simp [show ¬ 64 ≤ j by omega]
      · rw [if_neg e2]
        simp [show ¬ 64 ≤ j by omega]
  apply ag_l
  intro j hj hb
  rw [BitVec.getLsbD_and, Bool.and_eq_true, key k j hj] at hb
  rw [BitVec.getLsbD_and, hb.2, Bool.and_true, key x j hj, key o j hj, ag_k h hb.1]
/-! what is known of both bounds a number -/
theorem sub_le {a b : BitVec 64} (h : a &&& b = a) : a.toNat ≤ b.toNat := by
  have := congrArg BitVec.toNat h
  rw [BitVec.toNat_and] at this
  rw [← this]
  exact Nat.and_le_right
def lst (k o T : BitVec 64) : BitVec 64 := o ^^^ (T &&& k)
def mst (k o T f : BitVec 64) : BitVec 64 := lst k o T ||| (f &&& ~~~ k)
theorem lst_le {x k o T : BitVec 64} (h : ag x k o) : (lst k o T).toNat ≤ (x ^^^ T).toNat := by
  apply sub_le
  apply BitVec.eq_of_getLsbD_eq
  intro j hj
  have hb := ag_b h j
  simp only [lst, BitVec.getLsbD_and, BitVec.getLsbD_xor]
  rw [← hb]
  cases x.getLsbD j <;> cases k.getLsbD j <;> cases T.getLsbD j <;> rfl
theorem le_mst {x k o T f : BitVec 64} (h : ag x k o) (hx : x &&& f = x) (hT : T &&& f = T) : (x ^^^ T).toNat ≤ (mst k o T f).toNat := by
  apply sub_le
  apply BitVec.eq_of_getLsbD_eq
  intro j hj
  have hb := ag_b h j
  have h1 := congrArg (fun z => z.getLsbD j) hx
  have h2 := congrArg (fun z => z.getLsbD j) hT
  simp only [BitVec.getLsbD_and] at h1 h2
  simp only [mst, lst, BitVec.getLsbD_and, BitVec.getLsbD_or, BitVec.getLsbD_xor, BitVec.getLsbD_not, hj, decide_true, Bool.true_and]
  rw [← hb]
  revert h1 h2
  cases x.getLsbD j <;> cases k.getLsbD j <;> cases T.getLsbD j <;> cases f.getLsbD j <;> simp
/-- one bit is learned where one of both is sure -/
theorem snd_either {p : Prop} {y n : Bool} (hy : y = true → p) (hn : n = true → ¬ p) : ag (bit p &&& 1#64) (if y || n then 1#64 else 0#64) ((if y then 1#64 else 0#64) &&& (if y || n then 1#64 else 0#64)) := by
  unfold ag
  cases y with
  | true => rw [bit_t (hy rfl)]; rfl
  | false =>
    cases n with
    | true => rw [bit_f (hn rfl)]; rfl
    | false => simp
theorem ag_ne {x y k l o p : BitVec 64} (hx : ag x k o) (hy : ag y l p) (h : ¬ (k &&& l &&& (o ^^^ p)) = 0#64) : x ≠ y := by
  intro e
  subst e
  apply h
  apply BitVec.eq_of_getLsbD_eq
  intro j hj
  have h1 := ag_b hx j
  have h2 := ag_b hy j
  simp only [BitVec.getLsbD_and, BitVec.getLsbD_xor]
  rw [← h1, ← h2]
  cases x.getLsbD j <;> cases k.getLsbD j <;> cases l.getLsbD j <;> simp
theorem ag_eq {x y k l o p f : BitVec 64} (hx : ag x k o) (hy : ag y l p) (hk : k = f) (hl : l = f) (fx : x &&& f = x) (fy : y &&& f = y) (h : o = p) : x = y := by
  rw [← ag_all hx hk fx, ← ag_all hy hl fy, h]
theorem catK_1 {k o g : Nat → BitVec 64} {w : Nat → Nat} {N : Nat} (h : ∀ i, i < N → ag (g i) (k i) (o i)) (hg : ∀ i, i < N → ∀ j, w i ≤ j → (g i).getLsbD j = false) (hk : ∀ i, i < N → ∀ j, w i ≤ j → (k i).getLsbD j = false) : ∀ n, n ≤ N → ag (catA g w n) (catK k o w n).1 (catK k o w n).2
  | 0, _ => by unfold ag catA catK; decide
  | n + 1, hn => by
    have ih := catK_1 h hg hk n (by omega)
    have hh := h n (by omega)
    apply ag_of
    intro j hj
    simp only [catA, catK, BitVec.getLsbD_or, BitVec.getLsbD_shiftLeft]
    have h1 := ag_b hh j
    by_cases e : j < w n
    · simp only [e, decide_true, Bool.not_true, Bool.and_false, Bool.false_and, Bool.false_or]
      exact h1
    · have a1 := hg n (by omega) j (by omega)
      have a2 := hk n (by omega) j (by omega)
      have a3 := ag_n hh a2
      have h2 := ag_b ih (j - w n)
      simp only [a1, a2, a3, Bool.or_false, e, hj, decide_true, decide_false, Bool.not_false, Bool.true_and]
      exact h2
theorem ag_learn {x k o f : BitVec 64} (h : ag x k o) (hf : k &&& f = k) : ag (x &&& f) k (o &&& k) := snd_cut h hf
theorem snd_store {A kA oA x kx ox : BitVec 64} {w s : Nat} (hA : ag A kA oA) (hx : ag x kx ox) (fx : x &&& bm w = x) (fk : kx &&& bm w = kx) :
    ag ((A &&& ~~~ (bm w <<< s)) ||| (x <<< s)) ((kA &&& ~~~ (bm w <<< s)) ||| (kx <<< s)) ((oA &&& ~~~ (bm w <<< s)) ||| (ox <<< s)) := by
  apply ag_of
  intro j hj
  have h1 := ag_b hA j
  have h2 := ag_b hx (j - s)
  have h3 := congrArg (fun z => z.getLsbD (j - s)) fx
  have h4 := congrArg (fun z => z.getLsbD (j - s)) fk
  simp only [BitVec.getLsbD_and] at h3 h4
  simp only [BitVec.getLsbD_or, BitVec.getLsbD_and, BitVec.getLsbD_not, BitVec.getLsbD_shiftLeft, hj, decide_true, Bool.true_and]
  rw [← h1]
  by_cases e : j < s
  · simp [e]
  · simp only [e, decide_false, Bool.not_false, Bool.true_and]
    rw [← h2]
    revert h3 h4
    cases x.getLsbD (j - s) <;> cases kx.getLsbD (j - s) <;> cases (bm w).getLsbD (j - s) <;> simp
/-! products -/
theorem cg_int {j : Nat} (hj : j ≤ 64) {x y : BitVec 64} : cg j x y ↔ ((2 ^ j : Nat) : Int) ∣ (x.toNat : Int) - (y.toNat : Int) := by
  unfold cg
  rw [← BitVec.toNat_inj, BitVec.toNat_setWidth, BitVec.toNat_setWidth]
  constructor
  · intro h
    have h1 : ((x.toNat : Int) - y.toNat) % ((2 ^ j : Nat) : Int) = 0 := by
      apply Int.emod_eq_emod_iff_emod_sub_eq_zero.mp
      exact_mod_cast h
    exact Int.dvd_of_emod_eq_zero h1
  · intro h
    have := Int.emod_eq_emod_iff_emod_sub_eq_zero.mpr (Int.emod_eq_zero_of_dvd h)
    exact_mod_cast this
theorem mul_int (a b : BitVec 64) : ((2 ^ 64 : Nat) : Int) ∣ ((a * b).toNat : Int) - (a.toNat : Int) * b.toNat := by
  rw [BitVec.toNat_mul]
  have h := Nat.div_add_mod (a.toNat * b.toNat) (2 ^ 64)
  refine ⟨-((a.toNat * b.toNat / 2 ^ 64 : Nat) : Int), ?_⟩
  have h2 : ((a.toNat * b.toNat : Nat) : Int) = ((2 ^ 64 : Nat) : Int) * ((a.toNat * b.toNat / 2 ^ 64 : Nat) : Int) + ((a.toNat * b.toNat % 2 ^ 64 : Nat) : Int) := by
    rw [← Int.natCast_mul, ← Int.natCast_add, h]
  rw [← Int.natCast_mul, h2, Int.mul_neg]
  omega
theorem pw_dvd {a b : Nat} (h : a ≤ b) : ((2 ^ a : Nat) : Int) ∣ ((2 ^ b : Nat) : Int) := Int.natCast_dvd_natCast.mpr (Nat.pow_dvd_pow 2 h)
/-- P is p in its lowest r bits, x is o in its lowest m ones; 2^zx divides x, 2^zp divides p -/
theorem cg_prod {P p x o : BitVec 64} {r m zx zp b : Nat} (hb : b ≤ 64) (h1 : ((2 ^ r : Nat) : Int) ∣ (P.toNat : Int) - p.toNat) (h2 : ((2 ^ m : Nat) : Int) ∣ (x.toNat : Int) - o.toNat) (h3 : ((2 ^ zx : Nat) : Int) ∣ (x.toNat : Int)) (h4 : ((2 ^ zp : Nat) : Int) ∣ (p.toNat : Int)) (b1 : b ≤ r + zx) (b2 : b ≤ m + zp) : cg b (P * x) (p * o) := by
  rw [cg_int hb]
  have e1 : ((2 ^ b : Nat) : Int) ∣ ((P.toNat : Int) - p.toNat) * x.toNat := by
    refine Int.dvd_trans (pw_dvd b1) ?_
    rw [Nat.pow_add, Int.natCast_mul]
    exact Int.mul_dvd_mul h1 h3
  have e2 : ((2 ^ b : Nat) : Int) ∣ (p.toNat : Int) * ((x.toNat : Int) - o.toNat) := by
    refine Int.dvd_trans (pw_dvd b2) ?_
    rw [Nat.add_comm m zp, Nat.pow_add, Int.natCast_mul]
    exact Int.mul_dvd_mul h4 h2
  have e3 := Int.dvd_trans (pw_dvd hb) (mul_int P x)
  have e4 := Int.dvd_trans (pw_dvd hb) (mul_int p o)
  have e5 : ((P * x).toNat : Int) - ((p * o).toNat : Int) = (((P * x).toNat : Int) - (P.toNat : Int) * x.toNat) - (((p * o).toNat : Int) - (p.toNat : Int) * o.toNat) + (((P.toNat : Int) - p.toNat) * x.toNat + (p.toNat : Int) * ((x.toNat : Int) - o.toNat)) := by
    rw [Int.sub_mul, Int.mul_sub]
    omega
  rw [e5]
  exact Int.dvd_add (Int.dvd_sub e3 e4) (Int.dvd_add e1 e2)
