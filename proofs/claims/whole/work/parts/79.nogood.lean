/-! nogoods -/
theorem lt_at {x y p : Nat} (hx : x.testBit p = false) (hy : y.testBit p = true) (h : ∀ i, p < i → x.testBit i = true → y.testBit i = true) : x < y := by
  have d : x / 2 ^ (p + 1) ≤ y / 2 ^ (p + 1) := by
    have e : x / 2 ^ (p + 1) &&& y / 2 ^ (p + 1) = x / 2 ^ (p + 1) := by
      apply Nat.eq_of_testBit_eq
      intro i
      rw [Nat.testBit_and, Nat.testBit_div_two_pow, Nat.testBit_div_two_pow]
      cases q : x.testBit (i + (p + 1)) with
      | false => rfl
      | true => rw [h _ (by omega) q]; rfl
    rw [← e]
    exact Nat.and_le_right
  have ex : x / 2 ^ p % 2 = 0 := by
    rw [Nat.testBit_eq_decide_div_mod_eq] at hx
    simp at hx
    omega
  have ey : y / 2 ^ p % 2 = 1 := by
    rw [Nat.testBit_eq_decide_div_mod_eq] at hy
    simp at hy
    omega
  have dx : x / 2 ^ (p + 1) = x / 2 ^ p / 2 := by rw [Nat.pow_succ, Nat.div_div_eq_div_mul]
  have dy : y / 2 ^ (p + 1) = y / 2 ^ p / 2 := by rw [Nat.pow_succ, Nat.div_div_eq_div_mul]
  exact Nat.lt_of_div_lt_div (show x / 2 ^ p < y / 2 ^ p by omega)
section NG
variable {B : Bk} {σ : xS} {Q : xO → xS → Prop} {Bad : Nat → Prop}
/-- none that has the bits h of the mask m is right -/
def bad (S : Nat) (Bad : Nat → Prop) (m h : Nat) : Prop := ∀ J, J < 2 ^ S → J &&& m = h → Bad J
/-- the nogood at p, for what has the bits of a -/
def ngP (S : Nat) (Bad : Nat → Prop) (a p N H : Nat) : Prop := N < 2 ^ S ∧ N.testBit p = true ∧ (∀ i, i < p → N.testBit i = false) ∧ (∀ i, H.testBit i = (N.testBit i && a.testBit i && decide (i ≠ p))) ∧ bad S Bad N H
def ngS (S : Nat) (σ : xS) (Bad : Nat → Prop) (a : Nat) : Prop := ∀ p, p < S → a.testBit p = true → ∃ N H, xi σ 38 p = nI N ∧ xi σ 39 p = nI H ∧ ngP S Bad a p N H
theorem ngP.hl {S a p N H : Nat} (h : ngP S Bad a p N H) : H < 2 ^ S := bits_lt2 (fun i hi => by rw [h.2.2.2.1, lt_bits h.1 hi]; rfl)
theorem c_bound {m a S : Nat} (hS : S ≤ 16) (hm : m < 2 ^ S) (ha : a < 2 ^ S) (h : nd (2 ^ S - 1) m < a) (q : Q (.inl (some (.int (nI 1)))) σ) : wp_Checker_followsBound Q σ (nI m) (nI 0) (nI a) (nI S) := by
  have p16 : 2 ^ S ≤ 65536 := Nat.pow_le_pow_right (n := 2) (by decide) hS
  have p1 := Nat.one_le_two_pow (n := S)
  unfold wp_Checker_followsBound
  simp (disch := omega) only [i32_lit, l64_lit, lc_eq, lc_ge, lc_le, lc_gt, lc_lt, jL_inj, jL_add, jL_sub, jL_mul, jL_neg, jL_and, jL_or, jL_xor, jL_mone, BitVec.xor_allOnes, nI_clamp, nI_ltI, nI_leI, nI_eq, nI_1, nI_add, nI_sub, nI_addm, nI_mul, vp_in_n, xi_pi, xi_pl, xl_pi, xl_pl, xb_pi, xb_pl, xqi_i, xql_l, xqv_v, xqi_e, xql_e, xqv_e, forall_eq, true_and, and_true, nI_shl, nI_nd, Nat.one_mul]
  rw [nI_or (by decide) (by omega), Nat.zero_or]
  simp (disch := omega) only [i32_lit, l64_lit, lc_eq, lc_ge, lc_le, lc_gt, lc_lt, jL_inj, jL_add, jL_sub, jL_mul, jL_neg, jL_and, jL_or, jL_xor, jL_mone, BitVec.xor_allOnes, nI_clamp, nI_ltI, nI_leI, nI_eq, nI_1, nI_add, nI_sub, nI_addm, nI_mul, vp_in_n, xi_pi, xi_pl, xl_pi, xl_pl, xb_pi, xb_pl, xqi_i, xql_l, xqv_v, xqi_e, xql_e, xqv_e, forall_eq, true_and, and_true]
  exact ⟨fun z => absurd z (by omega), fun _ => q⟩
theorem s_bound {a : Nat} (hS : bsz B ≤ 16) (h1 : xi σ 30 15 = nI (bsz B)) (h2 : xi σ 30 16 = nI (2 ^ bsz B - 1)) (ha : a < 2 ^ bsz B) (hB : ∀ J, J < a → Bad J)
    (k : ∀ σ', oN [38, 39] [] σ σ' → ngS (bsz B) σ' Bad a → Q (.inl none) σ') : wp_Search_learnBound Q σ (nI a) := by
  have p16 : 2 ^ bsz B ≤ 65536 := Nat.pow_le_pow_right (n := 2) (by decide) hS
  have p1 := Nat.one_le_two_pow (n := bsz B)
  unfold wp_Search_learnBound
  have key := loop_i (σ := xS) (fun n p s => w_Search_learnBound_2 Q n (nI a) (nI p) s) (fun p s => oN [38, 39] [] σ s ∧ ∀ q, q < p → a.testBit q = true → ∃ N H, xi s 38 q = nI N ∧ xi s 39 q = nI H ∧ ngP (bsz B) Bad a q N H) (bsz B) (fun n s hI => ?_) (fun n p s hp hI hs => ?_)
  · exact ⟨_, key (bsz B + 1) 0 σ (by omega) (by omega) ⟨oN.refl _ _ _, fun q hq => absurd hq (by omega)⟩⟩
  · obtain ⟨a1, a2⟩ := hI
    unfold w_Search_learnBound_2
    simp (disch := omega) only [i32_lit, l64_lit, lc_eq, lc_ge, lc_le, lc_gt, lc_lt, jL_inj, jL_add, jL_sub, jL_mul, jL_neg, jL_and, jL_or, jL_xor, jL_mone, BitVec.xor_allOnes, nI_clamp, nI_ltI, nI_leI, nI_eq, nI_1, nI_add, nI_sub, nI_addm, nI_mul, vp_in_n, xi_pi, xi_pl, xl_pi, xl_pl, xb_pi, xb_pl, xqi_i, xql_l, xqv_v, xqi_e, xql_e, xqv_e, forall_eq, true_and, and_true, (a1.1 30 15 (by decide)).trans h1]
    exact ⟨fun _ => k s a1 a2, fun z => absurd (Nat.le_refl _) z⟩
  · obtain ⟨a1, a2⟩ := hI
    have e15 := (a1.1 30 15 (by decide)).trans h1
    have e16 := (a1.1 30 16 (by decide)).trans h2
    have pp : 2 ^ p < 2 ^ bsz B := Nat.pow_lt_pow_right (by decide) hp
    have pq := Nat.two_pow_pos p
    unfold w_Search_learnBound_2
    simp (disch := omega) only [i32_lit, l64_lit, lc_eq, lc_ge, lc_le, lc_gt, lc_lt, jL_inj, jL_add, jL_sub, jL_mul, jL_neg, jL_and, jL_or, jL_xor, jL_mone, BitVec.xor_allOnes, nI_clamp, nI_ltI, nI_leI, nI_eq, nI_1, nI_add, nI_sub, nI_addm, nI_mul, vp_in_n, xi_pi, xi_pl, xl_pi, xl_pl, xb_pi, xb_pl, xqi_i, xql_l, xqv_v, xqi_e, xql_e, xqv_e, forall_eq, true_and, and_true, e15, nI_shl, Nat.one_mul]
    rw [nI_tst (by omega) (by omega)]
    refine ⟨fun z => absurd z (by omega), fun _ => ⟨fun z => hs s ⟨a1, fun q hq hb => ?_⟩, fun z => ?_⟩⟩
    · by_cases e : q = p
      · rw [e, z] at hb; cases hb
      · exact a2 q (by omega) hb
    · have zb : a.testBit p = true := by
        cases q : a.testBit p with
        | true => rfl
        | false => exact absurd q z
      have l1 : nd (2 ^ bsz B - 1) (2 * 2 ^ p - 1) < 2 ^ bsz B := nd_lt (by omega)
      have l2 : nd (nd (2 ^ bsz B - 1) (2 * 2 ^ p - 1)) a < 2 ^ bsz B := nd_lt l1
      have Nb : ∀ i, (2 ^ p ||| nd (nd (2 ^ bsz B - 1) (2 * 2 ^ p - 1)) a).testBit i = (decide (p = i) || (decide (i < bsz B) && !decide (i < p + 1) && !a.testBit i)) := fun i => by
        rw [Nat.testBit_or, Nat.testBit_two_pow, nd_bit, nd_bit, Nat.testBit_two_pow_sub_one, show 2 * 2 ^ p - 1 = 2 ^ (p + 1) - 1 by rw [Nat.pow_succ, Nat.mul_comm], Nat.testBit_two_pow_sub_one]
      have l3 : 2 ^ p ||| nd (nd (2 ^ bsz B - 1) (2 * 2 ^ p - 1)) a < 2 ^ bsz B := Nat.or_lt_two_pow pp l2
      simp (disch := omega) only [i32_lit, l64_lit, lc_eq, lc_ge, lc_le, lc_gt, lc_lt, jL_inj, jL_add, jL_sub, jL_mul, jL_neg, jL_and, jL_or, jL_xor, jL_mone, BitVec.xor_allOnes, nI_clamp, nI_ltI, nI_leI, nI_eq, nI_1, nI_add, nI_sub, nI_addm, nI_mul, vp_in_n, xi_pi, xi_pl, xl_pi, xl_pl, xb_pi, xb_pl, xqi_i, xql_l, xqv_v, xqi_e, xql_e, xqv_e, forall_eq, true_and, and_true, e16, nI_nd, nI_or]
      have ng : ngP (bsz B) Bad a p (2 ^ p ||| nd (nd (2 ^ bsz B - 1) (2 * 2 ^ p - 1)) a) 0 := by
        refine ⟨l3, by rw [Nb]; simp, fun i hi => ?_, fun i => ?_, fun J hJ hm => hB J ?_⟩
        · rw [Nb, decide_eq_false (by omega), decide_eq_true (show i < p + 1 by omega)]
          simp
        · rw [Nb, Nat.zero_testBit]
          by_cases e : p = i
          · subst e; simp
          · rw [decide_eq_false e]
            cases a.testBit i <;> simp
        · rw [land_eq] at hm
          have hb : ∀ i, ((2 ^ p ||| nd (nd (2 ^ bsz B - 1) (2 * 2 ^ p - 1)) a).testBit i) = true → J.testBit i = false := fun i hi => by
            have := hm i
            rw [hi, Nat.zero_testBit, Bool.and_true] at this
            exact this
          refine lt_at (p := p) (hb p (by rw [Nb]; simp)) zb (fun i hi hj => ?_)
          cases q : a.testBit i with
          | true => rfl
          | false =>
            have iS : i < bsz B := by
              apply Classical.byContradiction
              intro n
              rw [lt_bits hJ (by omega)] at hj
              cases hj
            rw [hb i (by rw [Nb, q, decide_eq_true iS, decide_eq_false (show ¬ i < p + 1 by omega)]; simp)] at hj
            cases hj
      have fb : nd (2 ^ bsz B - 1) (2 ^ p ||| nd (nd (2 ^ bsz B - 1) (2 * 2 ^ p - 1)) a) < a := by
        refine lt_at (p := p) ?_ zb (fun i hi hj => ?_)
        · rw [nd_bit, Nb]; simp
        · rw [nd_bit, Nb, Nat.testBit_two_pow_sub_one, decide_eq_false (show ¬ p = i by omega), decide_eq_false (show ¬ i < p + 1 by omega)] at hj
          revert hj
          cases a.testBit i <;> cases decide (i < bsz B) <;> simp
      have o5 : oN [38, 39] [] s (xpi (xpi s 38 p (nI (2 ^ p ||| nd (nd (2 ^ bsz B - 1) (2 * 2 ^ p - 1)) a))) 39 p (nI 0)) := ((oN.pi s 38 p _).up (by decide) (by decide)).trans ((oN.pi _ 39 p _).up (by decide) (by decide))
      simp only [show ((38 : Nat) = 39) = False from by simp, show ((30 : Nat) = 39) = False from by simp, show ((30 : Nat) = 38) = False from by simp, false_and, if_false, true_and, and_self, if_true, e15]
      refine c_bound hS l3 ha fb ?_
      rw [xqi_i]
      refine ⟨fun _ => ?_, fun z => absurd z (by decide)⟩
      refine hs _ ⟨a1.trans o5, fun q hq hb => ?_⟩
      by_cases e : q = p
      · refine ⟨_, 0, ?_, ?_, by rw [e]; exact ng⟩
        · rw [xi_pi, if_neg (by omega), xi_pi, if_pos ⟨rfl, e⟩]
        · rw [xi_pi, if_pos ⟨rfl, e⟩]
      · obtain ⟨N, H, b1, b2, b3⟩ := a2 q (by omega) hb
        refine ⟨N, H, ?_, ?_, b3⟩
        · rw [xi_pi, if_neg (by omega), xi_pi, if_neg (fun z => e z.2)]; exact b1
        · rw [xi_pi, if_neg (fun z => e z.2), xi_pi, if_neg (by omega)]; exact b2
theorem c_both {S a p N H r : Nat} (hS : S ≤ 16) (hp : p < S) (hr : r < 2 ^ S) (ha : a < 2 ^ S) (rp : r.testBit p = true) (ap : a.testBit p = true) (g : ngP S Bad a p N H) (q : Q (.inl (some (.int (nI 1)))) σ) : wp_Checker_followsBoth Q σ (nI (2 ^ p)) (nI r) (nI (a &&& r)) (nI N) (nI H) (nI (nd (r ||| N) (2 ^ p))) := by
  have p16 : 2 ^ S ≤ 65536 := Nat.pow_le_pow_right (n := 2) (by decide) hS
  have pp : 2 ^ p < 2 ^ S := Nat.pow_lt_pow_right (by decide) hp
  have hH := g.hl
  have hN := g.1
  have l1 : a &&& r < 2 ^ S := Nat.and_lt_two_pow _ hr
  have l2 : (a &&& r) ^^^ H < 2 ^ S := Nat.xor_lt_two_pow l1 hH
  have l3 : r &&& N < 2 ^ S := Nat.and_lt_two_pow _ hN
  have l4 : (r &&& N) &&& ((a &&& r) ^^^ H) < 2 ^ S := Nat.and_lt_two_pow _ l2
  have l5 : r ||| N < 2 ^ S := Nat.or_lt_two_pow hr hN
  have l6 : nd (r ||| N) (2 ^ p) < 2 ^ S := nd_lt l5
  have e : (r &&& N) &&& ((a &&& r) ^^^ H) = 2 ^ p := by
    apply Nat.eq_of_testBit_eq
    intro i
    rw [Nat.testBit_and, Nat.testBit_and, Nat.testBit_xor, Nat.testBit_and, g.2.2.2.1 i, Nat.testBit_two_pow]
    by_cases c : p = i
    · subst c
      rw [rp, ap, g.2.1]
      simp
    · rw [decide_eq_false c, decide_eq_true (show i ≠ p by omega)]
      cases r.testBit i <;> cases N.testBit i <;> cases a.testBit i <;> rfl
  unfold wp_Checker_followsBoth w_Checker_followsBoth_18
  simp (disch := omega) only [i32_lit, l64_lit, lc_eq, lc_ge, lc_le, lc_gt, lc_lt, jL_inj, jL_add, jL_sub, jL_mul, jL_neg, jL_and, jL_or, jL_xor, jL_mone, BitVec.xor_allOnes, nI_clamp, nI_ltI, nI_leI, nI_eq, nI_1, nI_add, nI_sub, nI_addm, nI_mul, vp_in_n, xi_pi, xi_pl, xl_pi, xl_pl, xb_pi, xb_pl, xqi_i, xql_l, xqv_v, xqi_e, xql_e, xqv_e, forall_eq, true_and, and_true]
  rw [nI_and (by omega) (by omega), nI_xor (by omega) (by omega), nI_and (by omega) (by omega), e, nI_or (by omega) (by omega), nI_nd (by omega) (by omega)]
  exact ⟨fun n => absurd rfl n, fun _ => ⟨fun z => absurd z (by decide), fun _ => ⟨fun n => absurd rfl n, fun _ => q⟩⟩⟩
theorem s_join {S a p N H r : Nat} (hS : S ≤ 16) (hp : p < S) (hr : r < 2 ^ S) (ha : a < 2 ^ S) (rp : r.testBit p = true) (ap : a.testBit p = true) (g : ngP S Bad a p N H) (n1 : xi σ 38 p = nI N) (n2 : xi σ 39 p = nI H) (q : Q (.inl (some (.int (nI (nd (r ||| N) (2 ^ p)))))) σ) : wp_Search_join Q σ (nI p) (nI a) (nI r) := by
  have p16 : 2 ^ S ≤ 65536 := Nat.pow_le_pow_right (n := 2) (by decide) hS
  have pp : 2 ^ p < 2 ^ S := Nat.pow_lt_pow_right (by decide) hp
  have hN := g.1
  have l5 : r ||| N < 2 ^ S := Nat.or_lt_two_pow hr hN
  unfold wp_Search_join
  simp (disch := omega) only [i32_lit, l64_lit, lc_eq, lc_ge, lc_le, lc_gt, lc_lt, jL_inj, jL_add, jL_sub, jL_mul, jL_neg, jL_and, jL_or, jL_xor, jL_mone, BitVec.xor_allOnes, nI_clamp, nI_ltI, nI_leI, nI_eq, nI_1, nI_add, nI_sub, nI_addm, nI_mul, vp_in_n, xi_pi, xi_pl, xl_pi, xl_pl, xb_pi, xb_pl, xqi_i, xql_l, xqv_v, xqi_e, xql_e, xqv_e, forall_eq, true_and, and_true, nI_shl, Nat.one_mul, n1, n2, nI_or, nI_nd, nI_and]
  refine c_both hS hp hr ha rp ap g ?_
  rw [xqi_i]
  exact ⟨fun z => absurd z (by decide), fun _ => q⟩
theorem bad_join {S a p N H r : Nat} (g : ngP S Bad a p N H) (rp : r.testBit p = true) (ap : a.testBit p = true) (b : bad S Bad r (a &&& r)) : bad S Bad (nd (r ||| N) (2 ^ p)) (a &&& nd (r ||| N) (2 ^ p)) := by
  intro J hJ hm
  rw [land_eq] at hm
  have hb : ∀ i, i ≠ p → (r.testBit i = true ∨ N.testBit i = true) → J.testBit i = a.testBit i := fun i hi hrn => by
    have := hm i
    rw [Nat.testBit_and, nd_bit, Nat.testBit_or, Nat.testBit_two_pow, decide_eq_false (show ¬ p = i by omega)] at this
    rcases hrn with q | q
    · rw [q] at this; simpa using this
    · rw [q] at this; simpa using this
  cases jp : J.testBit p with
  | true =>
    refine b J hJ (land_eq.mpr (fun i => ?_))
    rw [Nat.testBit_and]
    by_cases c : i = p
    · rw [c, jp, ap]
    · cases q : r.testBit i with
      | false => simp
      | true => rw [hb i c (Or.inl q)]
  | false =>
    refine g.2.2.2.2 J hJ (land_eq.mpr (fun i => ?_))
    rw [g.2.2.2.1 i]
    by_cases c : i = p
    · rw [c, jp]; simp
    · rw [decide_eq_true c, Bool.and_true]
      cases q : N.testBit i with
      | false => simp
      | true => rw [hb i c (Or.inr q)]; simp
theorem s_next {a m : Nat} (hS : bsz B ≤ 16) (h1 : xi σ 30 15 = nI (bsz B)) (ha : a < 2 ^ bsz B) (hm : m < 2 ^ bsz B) (hb : bad (bsz B) Bad m (a &&& m)) (hB : ∀ J, J < a → Bad J) (g : ngS (bsz B) σ Bad a)
    (k0 : (∀ J, J < 2 ^ bsz B → Bad J) → Q (.inl (some (.int (-1)))) σ)
    (k1 : ∀ σ' a', oN [38, 39] [] σ σ' → a < a' → a' < 2 ^ bsz B → (∀ J, J < a' → Bad J) → ngS (bsz B) σ' Bad a' → Q (.inl (some (.int (nI a')))) σ') : wp_Search_nextAfter Q σ (nI a) (nI m) := by
  have p16 : 2 ^ bsz B ≤ 65536 := Nat.pow_le_pow_right (n := 2) (by decide) hS
  unfold wp_Search_nextAfter
  have key := loop_i (σ := Nat) (fun n p r => w_Search_nextAfter_5 Q n (nI a) (nI r) (nI p) σ) (fun p r => r < 2 ^ bsz B ∧ (∀ i, i < p → r.testBit i = false) ∧ bad (bsz B) Bad r (a &&& r)) (bsz B) (fun n r hI => ?_) (fun n p r hp hI hs => ?_)
  · exact ⟨_, key (bsz B + 1) 0 m (by omega) (by omega) ⟨hm, fun i hi => absurd hi (by omega), hb⟩⟩
  · obtain ⟨a1, a2, a3⟩ := hI
    have r0 : r = 0 := by
      apply Nat.eq_of_testBit_eq
      intro i
      rw [Nat.zero_testBit]
      by_cases e : i < bsz B
      · exact a2 i e
      · exact lt_bits a1 (by omega)
    unfold w_Search_nextAfter_5
    simp (disch := omega) only [i32_lit, l64_lit, lc_eq, lc_ge, lc_le, lc_gt, lc_lt, jL_inj, jL_add, jL_sub, jL_mul, jL_neg, jL_and, jL_or, jL_xor, jL_mone, BitVec.xor_allOnes, nI_clamp, nI_ltI, nI_leI, nI_eq, nI_1, nI_add, nI_sub, nI_addm, nI_mul, vp_in_n, xi_pi, xi_pl, xl_pi, xl_pl, xb_pi, xb_pl, xqi_i, xql_l, xqv_v, xqi_e, xql_e, xqv_e, forall_eq, true_and, and_true, h1]
    refine ⟨fun _ => k0 (fun J hJ => a3 J hJ (by rw [r0]; simp)), fun z => absurd (Nat.le_refl _) z⟩
  · obtain ⟨a1, a2, a3⟩ := hI
    have pp : 2 ^ p < 2 ^ bsz B := Nat.pow_lt_pow_right (by decide) hp
    have pq := Nat.two_pow_pos p
    unfold w_Search_nextAfter_5
    simp (disch := omega) only [i32_lit, l64_lit, lc_eq, lc_ge, lc_le, lc_gt, lc_lt, jL_inj, jL_add, jL_sub, jL_mul, jL_neg, jL_and, jL_or, jL_xor, jL_mone, BitVec.xor_allOnes, nI_clamp, nI_ltI, nI_leI, nI_eq, nI_1, nI_add, nI_sub, nI_addm, nI_mul, vp_in_n, xi_pi, xi_pl, xl_pi, xl_pl, xb_pi, xb_pl, xqi_i, xql_l, xqv_v, xqi_e, xql_e, xqv_e, forall_eq, true_and, and_true, h1, nI_shl, Nat.one_mul]
    rw [nI_tst (by omega) (by omega), nI_tst (by omega) (by omega)]
    refine ⟨fun z => absurd z (by omega), fun _ => ⟨fun z => ?_, fun z => ?_⟩⟩
    · unfold w_Search_nextAfter_61
      simp (disch := omega) only [i32_lit, l64_lit, lc_eq, lc_ge, lc_le, lc_gt, lc_lt, jL_inj, jL_add, jL_sub, jL_mul, jL_neg, jL_and, jL_or, jL_xor, jL_mone, BitVec.xor_allOnes, nI_clamp, nI_ltI, nI_leI, nI_eq, nI_1, nI_add, nI_sub, nI_addm, nI_mul, vp_in_n, xi_pi, xi_pl, xl_pi, xl_pl, xb_pi, xb_pl, xqi_i, xql_l, xqv_v, xqi_e, xql_e, xqv_e, forall_eq, true_and, and_true]
      rw [nI_tst (by omega) (by omega)]
      refine ⟨fun _ => hs r ⟨a1, fun i hi => ?_, a3⟩, fun n => absurd z n⟩
      by_cases e : i = p
      · rw [e]; exact z
      · exact a2 i (by omega)
    · have rp : r.testBit p = true := by
        cases q : r.testBit p with
        | true => rfl
        | false => exact absurd q z
      refine ⟨fun z2 => ?_, fun z2 => ?_⟩
      · have ap : a.testBit p = true := by
          cases q : a.testBit p with
          | true => rfl
          | false => exact absurd q z2
        obtain ⟨N, H, b1, b2, b3⟩ := g p hp ap
        unfold w_Search_nextAfter_61
        simp (disch := omega) only [i32_lit, l64_lit, lc_eq, lc_ge, lc_le, lc_gt, lc_lt, jL_inj, jL_add, jL_sub, jL_mul, jL_neg, jL_and, jL_or, jL_xor, jL_mone, BitVec.xor_allOnes, nI_clamp, nI_ltI, nI_leI, nI_eq, nI_1, nI_add, nI_sub, nI_addm, nI_mul, vp_in_n, xi_pi, xi_pl, xl_pi, xl_pl, xb_pi, xb_pl, xqi_i, xql_l, xqv_v, xqi_e, xql_e, xqv_e, forall_eq, true_and, and_true]
        rw [nI_tst (by omega) (by omega)]
        refine ⟨fun n => absurd n z, fun _ => ?_⟩
        refine s_join hS hp a1 ha rp ap b3 b1 b2 ?_
        rw [xqi_i]
        refine hs _ ⟨nd_lt (Nat.or_lt_two_pow a1 b3.1), fun i hi => ?_, bad_join b3 rp ap a3⟩
        rw [nd_bit, Nat.testBit_or, Nat.testBit_two_pow]
        by_cases e : i = p
        · rw [e]; simp
        · rw [a2 i (by omega), b3.2.2.1 i (by omega)]; rfl
      · simp (disch := omega) only [i32_lit, l64_lit, lc_eq, lc_ge, lc_le, lc_gt, lc_lt, jL_inj, jL_add, jL_sub, jL_mul, jL_neg, jL_and, jL_or, jL_xor, jL_mone, BitVec.xor_allOnes, nI_clamp, nI_ltI, nI_leI, nI_eq, nI_1, nI_add, nI_sub, nI_addm, nI_mul, vp_in_n, xi_pi, xi_pl, xl_pi, xl_pl, xb_pi, xb_pl, xqi_i, xql_l, xqv_v, xqi_e, xql_e, xqv_e, forall_eq, true_and, and_true, nI_and]
        have la : a &&& r < 2 ^ bsz B := Nat.and_lt_two_pow _ a1
        have e1 : (nI a ||| nI (2 ^ p)) &&& -nI (2 ^ p) = nI (nxt a p) := by
          have lo : a ||| 2 ^ p < 2 ^ bsz B := Nat.or_lt_two_pow ha pp
          rw [nI_or (by omega) (by omega), nI_neg2 p (by omega), nI_nd (by omega) (by omega)]
          rfl
        rw [e1]
        have o5 : oN [38, 39] [] σ (xpi (xpi σ 38 p (nI r)) 39 p (nI (a &&& r))) := ((oN.pi σ 38 p _).up (by decide) (by decide)).trans ((oN.pi _ 39 p _).up (by decide) (by decide))
        have nl : nxt a p < 2 ^ bsz B := bits_lt2 (fun i hi => by rw [nxt_bit, lt_bits ha hi, decide_eq_false (show ¬ i = p by omega)]; simp)
        refine k1 _ (nxt a p) o5 (nxt_gt z2) nl (fun J hJ => ?_) (fun q hq hb => ?_)
        · by_cases e : J < a
          · exact hB J e
          · refine a3 J (by omega) (land_eq.mpr (fun i => ?_))
            rw [Nat.testBit_and]
            by_cases c : i < p
            · rw [a2 i c]; simp
            · rw [nxt_between z2 (by omega) hJ i (by omega)]
        · rw [nxt_bit] at hb
          have pq2 : p ≤ q := by
            apply Classical.byContradiction
            intro n
            rw [decide_eq_false n] at hb
            cases hb
          by_cases e : q = p
          · refine ⟨r, a &&& r, ?_, ?_, a1, by rw [e]; exact rp, fun i hi => a2 i (by omega), fun i => ?_, a3⟩
            · rw [xi_pi, if_neg (by omega), xi_pi, if_pos ⟨rfl, e⟩]
            · rw [xi_pi, if_pos ⟨rfl, e⟩]
            · rw [Nat.testBit_and, nxt_bit]
              by_cases c : i < p
              · rw [a2 i c]; simp
              · rw [decide_eq_true (show p ≤ i by omega)]
                by_cases d : i = p
                · rw [d, z2, e]; simp
                · rw [decide_eq_false d, decide_eq_true (show i ≠ q by omega)]
                  cases r.testBit i <;> cases a.testBit i <;> rfl
          · rw [decide_eq_true pq2, decide_eq_false e, Bool.or_false, Bool.true_and] at hb
            obtain ⟨N, H, b1, b2, b3⟩ := g q hq hb
            refine ⟨N, H, ?_, ?_, b3.1, b3.2.1, b3.2.2.1, fun i => ?_, b3.2.2.2.2⟩
            · rw [xi_pi, if_neg (by omega), xi_pi, if_neg (fun z => e z.2)]; exact b1
            · rw [xi_pi, if_neg (fun z => e z.2), xi_pi, if_neg (by omega)]; exact b2
            · rw [b3.2.2.2.1 i, nxt_bit]
              by_cases c : i < q
              · rw [b3.2.2.1 i c]; simp
              · rw [decide_eq_true (show p ≤ i by omega), decide_eq_false (show ¬ i = p by omega), Bool.or_false, Bool.true_and]
end NG
