theorem sgn_bit {a : BitVec 64} {w j : Nat} (h1 : 1 ≤ w) (h2 : w ≤ 64) (hj : j < 64) : (sgn a w).getLsbD j = a.getLsbD (if j < w then j else w - 1) := by
  unfold sgn
  rw [BitVec.getLsbD_sshiftRight, BitVec.msb_eq_getLsbD_last, BitVec.getLsbD_shiftLeft, BitVec.getLsbD_shiftLeft]
  by_cases e : j < w
  · rw [if_pos e, if_pos (by omega)]
    simp [show ¬ 64 ≤ j by omega, show 64 - w + j < 64 by omega, show ¬ 64 - w + j < 64 - w by omega, show 64 - w + j - (64 - w) = j by omega]
  · rw [if_neg e, if_neg (by omega)]
    simp [show ¬ 64 ≤ j by omega, show ¬ 63 < 64 - w by omega, show 63 - (64 - w) = w - 1 by omega]
theorem snd_sext {x k o f : BitVec 64} {w : Nat} (h1 : 1 ≤ w) (h2 : w ≤ 64) (h : ag x k o) : ag (sgn x w &&& f) (sgn k w &&& f) (sgn o w &&& (sgn k w &&& f)) := by
  apply ag_l
  intro j hj hb
  rw [BitVec.getLsbD_and, Bool.and_eq_true, sgn_bit h1 h2 hj] at hb
  rw [BitVec.getLsbD_and, hb.2, Bool.and_true, sgn_bit h1 h2 hj, sgn_bit h1 h2 hj, ag_k h hb.1]
theorem snd_ashr {x k o f : BitVec 64} {w s : Nat} (h1 : 1 ≤ w) (h2 : w ≤ 64) (h : ag x k o) : ag ((sgn x w).sshiftRight s &&& f) ((sgn k w).sshiftRight s &&& f) ((sgn o w).sshiftRight s &&& ((sgn k w).sshiftRight s &&& f)) := by
  have key : ∀ v : BitVec 64, ∀ j, j < 64 → ((sgn v w).sshiftRight s).getLsbD j = v.getLsbD (if s + j < w then s + j else w - 1) := by
    intro v j hj
    rw [BitVec.getLsbD_sshiftRight, BitVec.msb_eq_getLsbD_last]
    by_cases e : s + j < 64
    · rw [if_pos e, sgn_bit h1 h2 e]
      simp [show ¬ 64 ≤ j by omega]
    · rw [if_neg e, sgn_bit h1 h2 (by decide), if_neg (show ¬ s + j < w by omega)]
      by_cases e2 : 64 - 1 < w
      · rw [if_pos e2, show w - 1 = 64 - 1 by omega]
        simp [show ¬ 64 ≤ j by omega]
      · rw [if_neg e2]
        simp [show ¬ 64 ≤ j by omega]
  apply ag_l
  intro j hj hb
  rw [BitVec.getLsbD_and, Bool.and_eq_true, key k j hj] at hb
  rw [BitVec.getLsbD_and, hb.2, Bool.and_true, key x j hj, key o j hj, ag_k h hb.1]
/-! what is known of both bounds a number -/
theorem sub_le {a b : BitVec 64} (h : a &&& b = a) : a.toNat ≤ b.toNat := by
  have := congrArg BitVec.toNat h
  rw [BitVec.toNat_and] at this
  rw [← this]
  exact Nat.and_le_right
def lst (k o T : BitVec 64) : BitVec 64 := o ^^^ (T &&& k)
def mst (k o T f : BitVec 64) : BitVec 64 := lst k o T ||| (f &&& ~~~ k)
theorem lst_le {x k o T : BitVec 64} (h : ag x k o) : (lst k o T).toNat ≤ (x ^^^ T).toNat := by
  apply sub_le
  apply BitVec.eq_of_getLsbD_eq
  intro j hj
  have hb := ag_b h j
  simp only [lst, BitVec.getLsbD_and, BitVec.getLsbD_xor]
  rw [← hb]
  cases x.getLsbD j <;> cases k.getLsbD j <;> cases T.getLsbD j <;> rfl
theorem le_mst {x k o T f : BitVec 64} (h : ag x k o) (hx : x &&& f = x) (hT : T &&& f = T) : (x ^^^ T).toNat ≤ (mst k o T f).toNat := by
  apply sub_le
  apply BitVec.eq_of_getLsbD_eq
  intro j hj
  have hb := ag_b h j
  have h1 := congrArg (fun z => z.getLsbD j) hx
  have h2 := congrArg (fun z => z.getLsbD j) hT
  simp only [BitVec.getLsbD_and] at h1 h2
  simp only [mst, lst, BitVec.getLsbD_and, BitVec.getLsbD_or, BitVec.getLsbD_xor, BitVec.getLsbD_not, hj, decide_true, Bool.true_and]
  rw [← hb]
  revert h1 h2
  cases x.getLsbD j <;> cases k.getLsbD j <;> cases T.getLsbD j <;> cases f.getLsbD j <;> simp
/-- one bit is learned where one of both is sure -/
theorem snd_either {p : Prop} {y n : Bool} (hy : y = true → p) (hn : n = true → ¬ p) : ag (bit p &&& 1#64) (if y || n then 1#64 else 0#64) ((if y then 1#64 else 0#64) &&& (if y || n then 1#64 else 0#64)) := by
  unfold ag
  cases y with
  | true => rw [bit_t (hy rfl)]; rfl
  | false =>
    cases n with
    | true => rw [bit_f (hn rfl)]; rfl
    | false => simp
theorem ag_ne {x y k l o p : BitVec 64} (hx : ag x k o) (hy : ag y l p) (h : ¬ (k &&& l &&& (o ^^^ p)) = 0#64) : x ≠ y := by
  intro e
  subst e
  apply h
  apply BitVec.eq_of_getLsbD_eq
  intro j hj
  have h1 := ag_b hx j
  have h2 := ag_b hy j
  simp only [BitVec.getLsbD_and, BitVec.getLsbD_xor]
  rw [← h1, ← h2]
  cases x.getLsbD j <;> cases k.getLsbD j <;> cases l.getLsbD j <;> simp
theorem ag_eq {x y k l o p f : BitVec 64} (hx : ag x k o) (hy : ag y l p) (hk : k = f) (hl : l = f) (fx : x &&& f = x) (fy : y &&& f = y) (h : o = p) : x = y := by
  rw [← ag_all hx hk fx, ← ag_all hy hl fy, h]
