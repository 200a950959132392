/-! THE LEARNER'S METHODS -/
def wrt (B : Bk) (J : Nat) (σ : xS) (t : Nat) : Prop := xl σ 41 t = jL (ev B J t) ∧ ∀ i, bfi B t ≤ i → i < bfi B (t + 1) → xl σ 41 (bar B i) = jL (ev B J (bar B i))
theorem wrt.keep {B : Bk} {J t : Nat} {σ σ' : xS} (h : wrt B J σ t) (o : onlyA σ σ') : wrt B J σ' t := ⟨(o.2.1 41 t (by decide)).trans h.1, fun i h1 h2 => (o.2.1 41 _ (by decide)).trans (h.2 i h1 h2)⟩
/-- goes on where P is asked for -/
def fin (B : Bk) (li t : Nat) (σ : xS) (A : Nat → BitVec 64) (Q : xO → xS → Prop) (P : (Nat → BitVec 64) → Prop) : Prop := ∀ σ' A' mk', onlyA σ σ' → lnS B li σ' A' mk' → gro B t A A' → P A' → Q (.inl none) σ'
def opN (B : Bk) : Option Nat → Int32
  | none => -1
  | some p => nI (bar B p)
def cnt (p : Nat → Bool) : Nat → Nat
  | 0 => 0
  | n + 1 => cnt p n + (if p n then 1 else 0)
theorem cnt_le (p : Nat → Bool) : ∀ n, cnt p n ≤ n
  | 0 => Nat.le_refl _
  | n + 1 => by
    have := cnt_le p n
    unfold cnt
    split <;> omega
theorem cnt_0 {p : Nat → Bool} : ∀ n, cnt p n = 0 → ∀ i, i < n → p i = false
  | 0, _, i, h => absurd h (by omega)
  | n + 1, e, i, h => by
    unfold cnt at e
    by_cases q : i = n
    · subst q
      cases hp : p i with
      | false => rfl
      | true => rw [hp] at e; simp at e
    · exact cnt_0 n (by omega) i (by omega)
theorem cnt_mono {p p' : Nat → Bool} : ∀ n, (∀ i, i < n → p' i = true → p i = true) → cnt p' n ≤ cnt p n
  | 0, _ => Nat.le_refl _
  | n + 1, h => by
    have ih := cnt_mono n (fun i hi => h i (by omega))
    unfold cnt
    cases hp : p' n with
    | false => simp; omega
    | true => rw [h n (by omega) hp]; simp; omega
theorem cnt_lt {p p' : Nat → Bool} {b : Nat} : ∀ n, (∀ i, i < n → p' i = true → p i = true) → b < n → p b = true → p' b = false → cnt p' n < cnt p n
  | 0, _, hb, _, _ => absurd hb (by omega)
  | n + 1, h, hb, h1, h2 => by
    unfold cnt
    by_cases e : b = n
    · subst e
      have := cnt_mono b (fun i hi => h i (by omega))
      rw [h1, h2]
      simp
      omega
    · have ih := cnt_lt n (fun i hi => h i (by omega)) (by omega) h1 h2
      cases hp : p' n with
      | false => simp; omega
      | true => rw [h n (by omega) hp]; simp; omega
section LRN
variable {B : Bk} {σ : xS} {Q : xO → xS → Prop} {t mk li J : Nat} {A : Nat → BitVec 64} {bits : BitVec 64}
theorem opN_m1 (w : wfB B) (ht : t < bma B) {ob : Option Nat} (h : ∀ p, ob = some p → bfi B t ≤ p ∧ p < bfi B (t + 1)) : (opN B ob = -nI 1) = (ob = none) := by
  have hm := wf_ma w
  cases ob with
  | none => exact propext ⟨fun _ => rfl, fun _ => rfl⟩
  | some p =>
    have q := h p rfl
    have := wf_ar w ht q.1 q.2
    have h1 : (nI (bar B p) = -1) = False := nI_ne_m1 (by omega)
    show (nI (bar B p) = -1) = _
    rw [h1]
    simp
theorem l_better {a : Nat} {ob : Option Nat} (w : wfB B) (ht : t < bma B) (ha : a < 2000) (h : ∀ p, ob = some p → bfi B t ≤ p ∧ p < bfi B (t + 1)) (q : ∀ r : Bool, (ob = none → r = true) → Q (.inl (some (.int (bI r)))) σ) : wp_Learner_isBetter Q σ (nI a) (opN B ob) := by
  have hm := wf_ma w
  unfold wp_Learner_isBetter
  simp (disch := omega) only [i32_lit, l64_lit, lc_eq, lc_ge, lc_le, lc_gt, lc_lt, jL_inj, jL_add, jL_sub, jL_mul, jL_neg, jL_and, jL_or, jL_xor, jL_mone, BitVec.xor_allOnes, nI_clamp, nI_ltI, nI_leI, nI_eq, nI_1, nI_add, nI_sub, nI_addm, nI_mul, vp_in_n, xi_pi, xi_pl, xl_pi, xl_pl, xb_pi, xb_pl, xqi_i, xql_l, xqv_v, xqi_e, xql_e, xqv_e, forall_eq, true_and, and_true, opN_m1 w ht h]
  refine ⟨fun z => q true (fun _ => rfl), fun z => ?_⟩
  cases ob with
  | none => exact absurd rfl z
  | some p =>
    have q1 := h p rfl
    have := wf_ar w ht q1.1 q1.2
    refine p_tz ?_
    rw [xqi_i]
    show vp_in (nI (bar B p)) 2000 ∧ _
    simp (disch := omega) only [i32_lit, l64_lit, lc_eq, lc_ge, lc_le, lc_gt, lc_lt, jL_inj, jL_add, jL_sub, jL_mul, jL_neg, jL_and, jL_or, jL_xor, jL_mone, BitVec.xor_allOnes, nI_clamp, nI_ltI, nI_leI, nI_eq, nI_1, nI_add, nI_sub, nI_addm, nI_mul, vp_in_n, xi_pi, xi_pl, xl_pi, xl_pl, xb_pi, xb_pl, xqi_i, xql_l, xqv_v, xqi_e, xql_e, xqv_e, forall_eq, true_and, and_true]
    refine p_tz ?_
    rw [xqi_i]
    exact ⟨fun _ => q false (fun n => absurd n z), fun _ => q true (fun _ => rfl)⟩
theorem ev_arg {i : Nat} (w : wfB B) (ht : t < bma B) (h1 : bfi B t ≤ i) (h2 : i < bfi B (t + 1)) : sbs (ev B J (bar B i)) (bful B (bar B i)) := ev_sub w (by have := wf_ar w ht h1 h2; omega)
theorem l_bitwise {all some T : BitVec 64} (L : lnS B li σ A mk) (w : wfB B) (hS : bsz B ≤ 16) (ht : t < bma B) (hl : t ≤ li) (W : wrt B J σ t) (hF : ∀ i, bfi B t ≤ i → i < bfi B (t + 1) → bful B (bar B i) = bful B t) (ha : sbs all (bful B t)) (hso : sbs some (bful B t))
    (hex : ∀ j, some.getLsbD j = true → ∃ i, bfi B t ≤ i ∧ i < bfi B (t + 1) ∧ (ev B J (bar B i) ^^^ T).getLsbD j = true)
    (k : fin B li t σ A Q (fun A' => (∀ i, bfi B t ≤ i → i < bfi B (t + 1) → sbs all (A' (bar B i))) ∧ ∀ j, some.getLsbD j = true → ∃ i, bfi B t ≤ i ∧ i < bfi B (t + 1) ∧ (A' (bar B i)).getLsbD j = true ∧ (ev B J (bar B i) ^^^ T).getLsbD j = true)) : wp_Learner_explainBitwise Q σ (nI t) (jL all) (jL some) (jL T) := by
  have hm := wf_ma w
  obtain ⟨f1, f2, f3⟩ := wf_fi w ht
  unfold wp_Learner_explainBitwise
  refine l_askAll L w hS ht hl (fun i i1 i2 => by rw [hF i i1 i2]; exact ha) (fun σ1 A1 mk1 o1 L1 g1 s1 => ?_)
  rw [xqv_v]
  simp (disch := omega) only [i32_lit, l64_lit, lc_eq, lc_ge, lc_le, lc_gt, lc_lt, jL_inj, jL_add, jL_sub, jL_mul, jL_neg, jL_and, jL_or, jL_xor, jL_mone, BitVec.xor_allOnes, nI_clamp, nI_ltI, nI_leI, nI_eq, nI_1, nI_add, nI_sub, nI_addm, nI_mul, vp_in_n, xi_pi, xi_pl, xl_pi, xl_pl, xb_pi, xb_pl, xqi_i, xql_l, xqv_v, xqi_e, xql_e, xqv_e, forall_eq, true_and, and_true, rc_fi L1.1]
  have none0 : ∀ rest : BitVec 64, sbs rest some → (∀ p, bfi B t ≤ p → p < bfi B (t + 1) → rest &&& (ev B J (bar B p) ^^^ T) = 0#64) → rest = 0#64 := fun rest r1 r2 => by
    apply BitVec.eq_of_getLsbD_eq
    intro j hj
    cases q : rest.getLsbD j with
    | false => simp
    | true =>
      obtain ⟨i, i1, i2, i3⟩ := hex j (r1.b q)
      have := congrArg (fun x => x.getLsbD j) (r2 i i1 i2)
      simp only [BitVec.getLsbD_and, q, i3] at this
      simp at this
  have key := loop_i (σ := BitVec 64 × xS) (fun n i s => w_Learner_explainBitwise_21 Q n (nI t) (jL T) (jL s.1) (nI i) s.2) (fun i s => bfi B t ≤ i ∧ onlyA σ s.2 ∧ ∃ A' mk', lnS B li s.2 A' mk' ∧ gro B t A A' ∧ (∀ i, bfi B t ≤ i → i < bfi B (t + 1) → sbs all (A' (bar B i))) ∧ sbs s.1 some ∧ (∀ j, some.getLsbD j = true → s.1.getLsbD j = true ∨ ∃ i, bfi B t ≤ i ∧ i < bfi B (t + 1) ∧ (A' (bar B i)).getLsbD j = true ∧ (ev B J (bar B i) ^^^ T).getLsbD j = true) ∧ cnt (fun p => decide (s.1 &&& (ev B J (bar B (bfi B t + p)) ^^^ T) ≠ 0#64)) (bfi B (t + 1) - bfi B t) ≤ bfi B (t + 1) - i) (bfi B (t + 1)) (fun n s hI => ?_) (fun n i s hi hI hs => ?_)
  · exact ⟨_, key (bfi B (t + 1) - bfi B t + 1) (bfi B t) (some, σ1) (by omega) (by omega) ⟨Nat.le_refl _, o1, A1, mk1, L1, g1, s1, sbs.refl _, fun j hj => Or.inl hj, cnt_le _ _⟩⟩
  · obtain ⟨h0, h1, A', mk', h2, h3, h4, h5, h6, h7⟩ := hI
    show w_Learner_explainBitwise_21 Q (n + 1) (nI t) (jL T) (jL s.1) (nI (bfi B (t + 1))) s.2
    unfold w_Learner_explainBitwise_21
    simp (disch := omega) only [i32_lit, l64_lit, lc_eq, lc_ge, lc_le, lc_gt, lc_lt, jL_inj, jL_add, jL_sub, jL_mul, jL_neg, jL_and, jL_or, jL_xor, jL_mone, BitVec.xor_allOnes, nI_clamp, nI_ltI, nI_leI, nI_eq, nI_1, nI_add, nI_sub, nI_addm, nI_mul, vp_in_n, xi_pi, xi_pl, xl_pi, xl_pl, xb_pi, xb_pl, xqi_i, xql_l, xqv_v, xqi_e, xql_e, xqv_e, forall_eq, true_and, and_true, rc_fi h2.1]
    refine ⟨fun _ => k s.2 A' mk' h1 h2 h3 ⟨h4, fun j hj => (h6 j hj).resolve_left ?_⟩, fun z => absurd (Nat.le_refl _) z⟩
    have c0 := Nat.le_zero.mp (by rw [Nat.sub_self] at h7; exact h7)
    have r0 := none0 s.1 h5 (fun p p1 p2 => by
      have := cnt_0 _ c0 (p - bfi B t) (by omega)
      rw [show bfi B t + (p - bfi B t) = p by omega] at this
      exact Classical.not_not.mp (of_decide_eq_false this))
    rw [r0]
    simp
  · obtain ⟨h0, h1, A', mk', h2, h3, h4, h5, h6, h7⟩ := hI
    show w_Learner_explainBitwise_21 Q (n + 1) (nI t) (jL T) (jL s.1) (nI i) s.2
    unfold w_Learner_explainBitwise_21
    simp (disch := omega) only [i32_lit, l64_lit, lc_eq, lc_ge, lc_le, lc_gt, lc_lt, jL_inj, jL_add, jL_sub, jL_mul, jL_neg, jL_and, jL_or, jL_xor, jL_mone, BitVec.xor_allOnes, nI_clamp, nI_ltI, nI_leI, nI_eq, nI_1, nI_add, nI_sub, nI_addm, nI_mul, vp_in_n, xi_pi, xi_pl, xl_pi, xl_pl, xb_pi, xb_pl, xqi_i, xql_l, xqv_v, xqi_e, xql_e, xqv_e, forall_eq, true_and, and_true, rc_fi h2.1]
    refine ⟨fun z => absurd z (by omega), fun _ => ⟨fun z => ?_, fun z => ?_⟩⟩
    · refine k s.2 A' mk' h1 h2 h3 ⟨h4, fun j hj => (h6 j hj).resolve_left ?_⟩
      rw [z]
      simp
    · have Ws := W.keep h1
      have key2 := loop_i (σ := Option Nat) (fun m j ob => w_Learner_explainBitwise_58 Q (w_Learner_explainBitwise_21 Q n) m (nI t) (jL T) (jL s.1) (nI i) (opN B ob) (nI j) s.2) (fun j ob => bfi B t ≤ j ∧ (ob = none → ∀ p, bfi B t ≤ p → p < j → s.1 &&& (ev B J (bar B p) ^^^ T) = 0#64) ∧ ∀ p, ob = Option.some p → bfi B t ≤ p ∧ p < bfi B (t + 1) ∧ s.1 &&& (ev B J (bar B p) ^^^ T) ≠ 0#64) (bfi B (t + 1)) (fun m ob hO => ?_) (fun m j ob hj hO hs2 => ?_)
      · exact ⟨_, key2 (bfi B (t + 1) - bfi B t + 1) (bfi B t) none (by omega) (by omega) ⟨Nat.le_refl _, fun _ p p1 p2 => absurd p2 (by omega), fun p hp => by cases hp⟩⟩
      · obtain ⟨q0, q1, q2⟩ := hO
        unfold w_Learner_explainBitwise_58
        have hob : ∀ p, ob = Option.some p → bfi B t ≤ p ∧ p < bfi B (t + 1) := fun p hp => ⟨(q2 p hp).1, (q2 p hp).2.1⟩
        simp (disch := omega) only [i32_lit, l64_lit, lc_eq, lc_ge, lc_le, lc_gt, lc_lt, jL_inj, jL_add, jL_sub, jL_mul, jL_neg, jL_and, jL_or, jL_xor, jL_mone, BitVec.xor_allOnes, nI_clamp, nI_ltI, nI_leI, nI_eq, nI_1, nI_add, nI_sub, nI_addm, nI_mul, vp_in_n, xi_pi, xi_pl, xl_pi, xl_pl, xb_pi, xb_pl, xqi_i, xql_l, xqv_v, xqi_e, xql_e, xqv_e, forall_eq, true_and, and_true, rc_fi h2.1, opN_m1 w ht hob]
        refine ⟨fun _ => ⟨fun e => ?_, fun e => ?_⟩, fun z2 => absurd (Nat.le_refl _) z2⟩
        · exact absurd (none0 s.1 h5 (q1 e)) z
        · cases ob with
          | none => exact absurd rfl e
          | some p =>
            obtain ⟨p1, p2, p3⟩ := q2 p rfl
            have pl := wf_ar w ht p1 p2
            show vp_in (nI (bar B p)) 2000 ∧ wp_Learner_ask _ s.2 (nI (bar B p)) (jL s.1 &&& (xl s.2 41 (nI (bar B p)).toNatClampNeg ^^^ jL T))
            simp (disch := omega) only [i32_lit, l64_lit, lc_eq, lc_ge, lc_le, lc_gt, lc_lt, jL_inj, jL_add, jL_sub, jL_mul, jL_neg, jL_and, jL_or, jL_xor, jL_mone, BitVec.xor_allOnes, nI_clamp, nI_ltI, nI_leI, nI_eq, nI_1, nI_add, nI_sub, nI_addm, nI_mul, vp_in_n, xi_pi, xi_pl, xl_pi, xl_pl, xb_pi, xb_pl, xqi_i, xql_l, xqv_v, xqi_e, xql_e, xqv_e, forall_eq, true_and, and_true, Ws.2 p p1 p2]
            have pb : sbs (s.1 &&& (ev B J (bar B p) ^^^ T)) (bful B (bar B p)) := by
              rw [hF p p1 p2]
              exact (h5.trans hso).andl _
            refine l_ask h2 w hS ht p1 p2 hl pb (fun σ' A2 mk2 o2 L2 g2 s2 => ?_)
            rw [xqv_v]
            show vp_in (nI (bar B p)) 2000 ∧ w_Learner_explainBitwise_21 Q n (nI t) (jL T) (jL s.1 &&& ((xl σ' 41 (nI (bar B p)).toNatClampNeg ^^^ jL T) ^^^ jL (BitVec.allOnes 64))) (nI (i + 1)) σ'
            simp (disch := omega) only [i32_lit, l64_lit, lc_eq, lc_ge, lc_le, lc_gt, lc_lt, jL_inj, jL_add, jL_sub, jL_mul, jL_neg, jL_and, jL_or, jL_xor, jL_mone, BitVec.xor_allOnes, nI_clamp, nI_ltI, nI_leI, nI_eq, nI_1, nI_add, nI_sub, nI_addm, nI_mul, vp_in_n, xi_pi, xi_pl, xl_pi, xl_pl, xb_pi, xb_pl, xqi_i, xql_l, xqv_v, xqi_e, xql_e, xqv_e, forall_eq, true_and, and_true, (Ws.keep o2).2 p p1 p2]
            refine hs (s.1 &&& ~~~ (ev B J (bar B p) ^^^ T), σ') ⟨by omega, h1.trans o2, A2, mk2, L2, h3.trans g2, fun i i1 i2 => (h4 i i1 i2).trans (g2.1 _), h5.andl _, fun j hj => ?_, ?_⟩
            · rcases h6 j hj with r | ⟨i, i1, i2, i3, i4⟩
              · have j64 : j < 64 := by
                  apply Classical.byContradiction
                  intro n
                  rw [BitVec.getLsbD_of_ge _ _ (by omega)] at r
                  cases r
                cases c : (ev B J (bar B p) ^^^ T).getLsbD j with
                | true => exact Or.inr ⟨p, p1, p2, s2.b (by rw [BitVec.getLsbD_and, r, c]; rfl), c⟩
                | false => exact Or.inl (by rw [BitVec.getLsbD_and, BitVec.getLsbD_not, r, c]; simp [j64])
              · exact Or.inr ⟨i, i1, i2, (g2.1 _).b i3, i4⟩
            · have lt := cnt_lt (p := fun q => decide (s.1 &&& (ev B J (bar B (bfi B t + q)) ^^^ T) ≠ 0#64)) (p' := fun q => decide (s.1 &&& ~~~ (ev B J (bar B p) ^^^ T) &&& (ev B J (bar B (bfi B t + q)) ^^^ T) ≠ 0#64)) (b := p - bfi B t) (bfi B (t + 1) - bfi B t) (fun q hq hp => ?_) (by omega) ?_ ?_
              · show cnt (fun q => decide (s.1 &&& ~~~ (ev B J (bar B p) ^^^ T) &&& (ev B J (bar B (bfi B t + q)) ^^^ T) ≠ 0#64)) (bfi B (t + 1) - bfi B t) ≤ _
                omega
              · refine decide_eq_true (fun n => of_decide_eq_true hp ?_)
                rw [BitVec.and_assoc, BitVec.and_comm (~~~ _), ← BitVec.and_assoc, n, BitVec.zero_and]
              · refine decide_eq_true ?_
                rw [show bfi B t + (p - bfi B t) = p by omega]
                exact p3
              · refine decide_eq_false (fun n => n ?_)
                rw [show bfi B t + (p - bfi B t) = p by omega, BitVec.and_assoc, BitVec.and_comm (~~~ _), BitVec.and_not_self]
                exact BitVec.and_zero
      · obtain ⟨q0, q1, q2⟩ := hO
        unfold w_Learner_explainBitwise_58
        have hob : ∀ p, ob = Option.some p → bfi B t ≤ p ∧ p < bfi B (t + 1) := fun p hp => ⟨(q2 p hp).1, (q2 p hp).2.1⟩
        have jl := wf_ar w ht q0 hj
        simp (disch := omega) only [i32_lit, l64_lit, lc_eq, lc_ge, lc_le, lc_gt, lc_lt, jL_inj, jL_add, jL_sub, jL_mul, jL_neg, jL_and, jL_or, jL_xor, jL_mone, BitVec.xor_allOnes, nI_clamp, nI_ltI, nI_leI, nI_eq, nI_1, nI_add, nI_sub, nI_addm, nI_mul, vp_in_n, xi_pi, xi_pl, xl_pi, xl_pl, xb_pi, xb_pl, xqi_i, xql_l, xqv_v, xqi_e, xql_e, xqv_e, forall_eq, true_and, and_true, rc_fi h2.1, rc_ar h2.1, opN_m1 w ht hob, Ws.2 j q0 hj]
        refine ⟨fun z2 => absurd z2 (by omega), fun _ => ⟨fun e => hs2 ob ⟨by omega, fun o p p1 p2 => ?_, q2⟩, fun e => ?_⟩⟩
        · by_cases c : p = j
          · rw [c]; exact e
          · exact q1 o p p1 (by omega)
        · refine l_better w ht (by omega) hob (fun r hr => ?_)
          rw [xqi_i]
          simp (disch := omega) only [i32_lit, l64_lit, lc_eq, lc_ge, lc_le, lc_gt, lc_lt, jL_inj, jL_add, jL_sub, jL_mul, jL_neg, jL_and, jL_or, jL_xor, jL_mone, BitVec.xor_allOnes, nI_clamp, nI_ltI, nI_leI, nI_eq, nI_1, nI_add, nI_sub, nI_addm, nI_mul, vp_in_n, xi_pi, xi_pl, xl_pi, xl_pl, xb_pi, xb_pl, xqi_i, xql_l, xqv_v, xqi_e, xql_e, xqv_e, forall_eq, true_and, and_true, bI_0]
          refine ⟨fun r0 => hs2 ob ⟨by omega, fun o => ?_, q2⟩, fun r1 => ?_⟩
          · rw [hr o] at r0; cases r0
          · refine hs2 (Option.some j) ⟨by omega, fun o => ?_, fun p hp => ?_⟩
            · cases o
            · cases hp
              exact ⟨q0, hj, e⟩
end LRN
