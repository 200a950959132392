theorem low0 {x : BitVec 64} {z : Nat} (hz : z ≤ 64) (h : ∀ i, i < z → x.getLsbD i = false) : ((2 ^ z : Nat) : Int) ∣ (x.toNat : Int) := by
  have h1 : cg z x 0#64 := cg_bits.mpr (fun i hi => by rw [h i hi]; simp)
  have h2 := (cg_int hz).mp h1
  have e : ((0#64).toNat : Int) = 0 := rfl
  rw [e, Int.sub_zero] at h2
  exact h2
def prodP (g : Nat → BitVec 64) : Nat → BitVec 64
  | 0 => 1#64
  | n + 1 => prodP g n * g n
theorem prodP_fold (g : Nat → BitVec 64) : ∀ n, foldA g 27 n = prodP g (n + 1)
  | 0 => by show g 0 = 1#64 * g 0; rw [BitVec.one_mul]
  | n + 1 => by
    show foldA g 27 n * g (n + 1) = prodP g (n + 1) * g (n + 1)
    rw [prodP_fold g n]
theorem prodK_1 {W : Nat} (hW : W ≤ 64) {g k o : Nat → BitVec 64} {N : Nat} (h : ∀ i, i < N → ag (g i) (k i) (o i)) : ∀ n, n ≤ N → (prodK W k o n).1 ≤ W ∧ cg (prodK W k o n).1 (prodP g n) (prodK W k o n).2
  | 0, _ => ⟨Nat.le_refl _, rfl⟩
  | n + 1, hn => by
    obtain ⟨i1, i2⟩ := prodK_1 hW h n (by omega)
    have hh := h n (by omega)
    generalize hp : prodK W k o n = p at i1 i2
    simp only [prodK, prodP, hp]
    have b1 := lr_bits (k n)
    have b2 := lr_bits (k n &&& ~~~ o n)
    have b3 := lr_bits (bm p.1 &&& ~~~ p.2)
    have z2 : ∀ i, i < lr (k n &&& ~~~ o n) → (g n).getLsbD i = false := by
      intro i hi
      have hb := b2.1 i hi
      simp only [BitVec.getLsbD_and, BitVec.getLsbD_not, Bool.and_eq_true, Bool.not_eq_true'] at hb
      rw [ag_k hh hb.1, hb.2.2]
    have z3 : ∀ i, i < lr (bm p.1 &&& ~~~ p.2) → (p.2 &&& bm p.1).getLsbD i = false := by
      intro i hi
      have hb := b3.1 i hi
      simp only [BitVec.getLsbD_and, BitVec.getLsbD_not, Bool.and_eq_true, Bool.not_eq_true'] at hb
      rw [BitVec.getLsbD_and, hb.2.2, Bool.false_and]
    have c1 : cg p.1 (prodP g n) (p.2 &&& bm p.1) := by
      rw [cg_bits]
      intro i hi
      rw [cg_bits.mp i2 i hi, BitVec.getLsbD_and, bm_bit]
      simp [hi, show i < 64 by omega]
    have c2 : cg (lr (k n)) (g n) (o n &&& bm (lr (k n))) := by
      have := lr_le (k n)
      rw [cg_bits]
      intro i hi
      rw [ag_k hh (b1.1 i hi), BitVec.getLsbD_and, bm_bit]
      simp [hi, show i < 64 by omega]
    refine ⟨by omega, cg_prod (by omega) ((cg_int (by omega)).mp c1) ((cg_int (lr_le _)).mp c2) (low0 (lr_le _) z2) (low0 (lr_le _) z3) (by omega) (by omega)⟩
theorem snd_prod {W : Nat} (hW : W ≤ 64) {g k o : Nat → BitVec 64} {n : Nat} (hn : 1 ≤ n) (h : ∀ i, i < n → ag (g i) (k i) (o i)) : ag (foldA g 27 (n - 1) &&& bm W) (bm (prodK W k o n).1) ((prodK W k o n).2 &&& bm (prodK W k o n).1) := by
  obtain ⟨h1, h2⟩ := prodK_1 hW h n (Nat.le_refl _)
  have h3 := prodP_fold g (n - 1)
  rw [show n - 1 + 1 = n by omega] at h3
  rw [h3]
  apply ag_l
  intro b hb hk
  rw [bm_bit] at hk
  simp at hk
  rw [BitVec.getLsbD_and, bm_bit, cg_bits.mp h2 b hk.1, decide_eq_true (show b < W by omega), decide_eq_true hb, Bool.and_self, Bool.and_true]
theorem snd_lshr {x k o f : BitVec 64} {s : Nat} (h : ag x k o) (hx : x &&& f = x) (hf : ∀ j, (f >>> s).getLsbD j = true → f.getLsbD j = true) (hk : k &&& f = k) : ag ((x >>> s) &&& f) ((k >>> s) ||| (f &&& ~~~ (f >>> s))) ((o >>> s) &&& ((k >>> s) ||| (f &&& ~~~ (f >>> s)))) := by
  apply ag_l
  intro j hj hb
  have h3 := congrArg (fun z => z.getLsbD (s + j)) hx
  have h4 := congrArg (fun z => z.getLsbD (s + j)) hk
  have h5 := hf j
  simp only [BitVec.getLsbD_and, BitVec.getLsbD_ushiftRight] at h3 h4 h5
  simp only [BitVec.getLsbD_or, BitVec.getLsbD_and, BitVec.getLsbD_not, BitVec.getLsbD_ushiftRight, Bool.or_eq_true, Bool.and_eq_true, decide_eq_true_eq, Bool.not_eq_true'] at hb
  rw [BitVec.getLsbD_and, BitVec.getLsbD_ushiftRight, BitVec.getLsbD_ushiftRight]
  cases e : k.getLsbD (s + j) with
  | true =>
    rw [e, Bool.true_and] at h4
    rw [h5 h4, Bool.and_true, ag_k h e]
  | false =>
    rw [e] at hb
    have q := hb.resolve_left (by decide)
    rw [q.2.2, Bool.and_false] at h3
    rw [← h3, ag_n h e]
    rfl
