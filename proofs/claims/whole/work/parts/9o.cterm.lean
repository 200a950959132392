/-! THE CLASS READS: arguments given, operators, words compared, constants -/
theorem wgh_lt {op own s n : Nat} (h1 : own ≤ 4096) (h2 : s ≤ 4096) (h3 : n ≤ 40) (h4 : op = 27 ∨ (29 ≤ op ∧ op ≤ 32) → s ≤ 64) : wgh op own s n < 1073741824 := by
  have m1 : s * (n - 1) ≤ 4096 * 39 := Nat.mul_le_mul h2 (by omega)
  have m2 : s * n ≤ 4096 * 40 := Nat.mul_le_mul h2 h3
  have m3 : s * n * (n - 1) ≤ 4096 * 40 * 39 := Nat.mul_le_mul m2 (by omega)
  unfold wgh
  by_cases z1 : op = 10 ∨ op = 11 ∨ op = 12 ∨ op = 44
  · rw [if_pos z1]; omega
  rw [if_neg z1]
  by_cases z2 : op = 13 ∨ op = 21
  · rw [if_pos z2]; omega
  rw [if_neg z2]
  by_cases z3 : op = 14 ∨ op = 15 ∨ op = 16 ∨ op = 17 ∨ op = 23 ∨ op = 24 ∨ op = 25
  · rw [if_pos z3]; rw [Nat.mul_assoc]; omega
  rw [if_neg z3]
  by_cases z4 : op = 18
  · rw [if_pos z4]; omega
  rw [if_neg z4]
  by_cases z5 : op = 19
  · rw [if_pos z5]; rw [Nat.mul_assoc]; omega
  rw [if_neg z5]
  by_cases z6 : op = 20
  · rw [if_pos z6]; rw [Nat.mul_assoc 5 s n, Nat.mul_assoc 5]; omega
  rw [if_neg z6]
  by_cases z7 : op = 26
  · rw [if_pos z7]; rw [Nat.mul_assoc]; omega
  rw [if_neg z7]
  by_cases z8 : op = 27
  · rw [if_pos z8]; have q := h4 (.inl z8); have m4 : s * s ≤ 64 * 64 := Nat.mul_le_mul q q; have m5 : s * s * (n - 1) ≤ 64 * 64 * 39 := Nat.mul_le_mul m4 (by omega); rw [Nat.mul_assoc 14 s s, Nat.mul_assoc 14]; omega
  rw [if_neg z8]
  by_cases z9 : op = 29 ∨ op = 30
  · rw [if_pos z9]; have q := h4 (.inr (by omega)); have m4 : s * s ≤ 64 * 64 := Nat.mul_le_mul q q; rw [Nat.mul_assoc 16 s s]; omega
  rw [if_neg z9]
  by_cases z10 : op = 31 ∨ op = 32
  · rw [if_pos z10]; have q := h4 (.inr (by omega)); have m4 : s * s ≤ 64 * 64 := Nat.mul_le_mul q q; rw [Nat.mul_assoc 16 s s]; omega
  rw [if_neg z10]
  by_cases z11 : op = 33 ∨ op = 34 ∨ op = 35
  · rw [if_pos z11]; omega
  rw [if_neg z11]
  by_cases z12 : op = 45 ∨ op = 46
  · rw [if_pos z12]; omega
  rw [if_neg z12]
  omega
theorem RC_lo {B : Bk} {σ : xS} {op so lo : Nat} {bits : BitVec 64} (R : RC (addT B op so 0 bits []) σ) : RC (addT B op so lo bits []) (xpi σ 11 (bma B) (nI lo)) := by
  have cd : ∀ a b, ¬ (a = 11 ∧ b = bma B) → (addT B op so lo bits []).1 a b = (addT B op so 0 bits []).1 a b := fun a b h => by
    unfold addT
    dsimp only
    have e15 : cao B op lo [] = cao B op 0 [] := rfl
    rw [e15, if_neg (c := a = 11 ∧ b = bma B) h, if_neg (c := a = 11 ∧ b = bma B) h]
  obtain ⟨⟨r1, r2, r3, r4, r5⟩, r6, r7⟩ := R
  refine ⟨⟨?_, ?_, ?_, ?_, ?_⟩, fun k j hj => ?_, fun t ht => ?_⟩
  · rw [xi_pi, if_neg (by omega), r1]; exact congrArg nI (cd 6 9 (by omega)).symm
  · rw [xi_pi, if_neg (by omega), r2]; exact congrArg nI (cd 6 10 (by omega)).symm
  · rw [xi_pi, if_neg (by omega), r3]; exact congrArg nI (cd 5 4 (by omega)).symm
  · rw [xi_pi, if_neg (by omega), r4]; exact congrArg nI (cd 5 8 (by omega)).symm
  · rw [xi_pi, if_neg (by omega), r5]; exact congrArg nI (cd 5 10 (by omega)).symm
  · have hk : bkB (addT B op so lo bits []) k = bkB (addT B op so 0 bits []) k := by
      unfold bkB
      have e9 : bfi (addT B op so lo bits []) (bma (addT B op so lo bits [])) = bfi (addT B op so 0 bits []) (bma (addT B op so 0 bits [])) := by rw [aT_m, aT_m, aT_f, aT_f]
      have e17 : (addT B op so lo bits []).1 17 (bna (addT B op so lo bits [])) = (addT B op so 0 bits []).1 17 (bna (addT B op so 0 bits [])) := by rw [aT_k (by decide), aT_k (by decide), show bna (addT B op so lo bits []) = bna B from aT_5 4, show bna (addT B op so 0 bits []) = bna B from aT_5 4]
      rw [e9, e17, aT_m, aT_m, show bna (addT B op so lo bits []) = bna B from aT_5 4, show bna (addT B op so 0 bits []) = bna B from aT_5 4, show bth (addT B op so lo bits []) = bth B from aT_5 8, show bth (addT B op so 0 bits []) = bth B from aT_5 8, show bas (addT B op so lo bits []) = bas B from aT_5 10, show bas (addT B op so 0 bits []) = bas B from aT_5 10]
    rw [xi_pi]
    by_cases z : k = 11 ∧ j = bma B
    · rw [if_pos z, z.1, z.2, aT_11, if_pos rfl]
    · rw [if_neg z, cd k j z]
      exact r6 k j (by rw [← hk]; exact hj)
  · rw [aT_m] at ht
    have := r7 t (by rw [aT_m]; exact ht)
    rw [xl_pi, xl_pi]
    unfold bful at this ⊢
    rw [show bso (addT B op so 0 bits []) t = _ from aT_8 t] at this
    rw [show bso (addT B op so lo bits []) t = _ from aT_8 t]
    exact this
section CT2
variable {B : Bk} {top base : Nat} {σ : xS} {Q : xO → xS → Prop} {as : List Nat}
def oG (σ σ' : xS) : Prop := (∀ a b, ¬ (5 ≤ a ∧ a ≤ 22) → ¬ (a = 24 ∧ b = 4) → xi σ' a b = xi σ a b) ∧ (∀ a b, a ≠ 12 → a ≠ 13 → xl σ' a b = xl σ a b) ∧ xb σ' = xb σ
theorem v_give {op so lo : Nat} {bits : BitVec 64} (R : RC (addT B op so 0 bits []) σ) (g : gB B) (hm : bma B < 2000) (sk : SK σ base as) (ht : xi σ 24 4 = nI (base + as.length)) (hb : base + as.length ≤ 2400) (hl : as.length ≤ 40) (ha : ∀ x ∈ as, x < bma B) (ho : op < 64) (hlo : op = 10 → xi σ 24 11 = nI lo ∧ lo < 2147483648)
    (k : ∀ σ', RC (addT B op so (if op = 10 then lo else 0) bits as) σ' → xi σ' 24 4 = nI base → oG σ σ' → Q (.inl none) σ') : wp_Reader_giveArguments Q σ (nI (bma B)) (nI base) := by
  have w := g.1
  have lw := g.2.1
  have f40 := g.2.2.2.2.2
  have x7 : xi σ 7 (bma B) = nI op := by
    rw [rc_op R (by rw [aT_m]; omega)]
    exact congrArg nI ((aT_7 _).trans (if_pos rfl))
  have loop : ∀ (lo' : Nat) (s0 : xS), lo' < 2147483648 → lo' = (if op = 10 then lo else 0) → oB σ s0 → RC (addT B op so lo' bits []) s0 → ∃ m, w_Reader_giveArguments_29 Q m (nI (bma B)) (nI base) (nI base) s0 := fun lo' s0 hl' el o0 R0 => by
    have key := loop_i (σ := xS) (fun m q s => w_Reader_giveArguments_29 Q m (nI (bma B)) (nI base) (nI (base + q)) s) (fun q s => oB σ s ∧ RC (addT B op so lo' bits (as.take q)) s) as.length (fun m s hI => ?_) (fun m q s hq hI hs => ?_)
    · exact ⟨_, key (as.length + 1) 0 s0 (by omega) (by omega) ⟨o0, R0⟩⟩
    · unfold w_Reader_giveArguments_29
      rw [hI.1.1 24 4 (by omega), ht]
      refine ⟨fun _ s1 e1 => ?_, fun z => absurd (Int32.le_refl _) z⟩
      have R2 := hI.2
      rw [List.take_length, el] at R2
      refine k s1 ?_ ?_ ?_
      · rw [e1]; exact R2.pi _ _ _ (.inl (by decide))
      · rw [e1, xi_pi, if_pos ⟨rfl, rfl⟩]
      · rw [e1]
        exact ⟨fun a b h1 h2 => by rw [xi_pi, if_neg h2]; exact hI.1.1 a b h1, hI.1.2.1, hI.1.2.2⟩
    · have al := ha _ (getD_mem hq)
      have bl := (lw (as.getD q 0) al).1
      have ol := op_le w al
      unfold w_Reader_giveArguments_29
      rw [hI.1.1 24 4 (by omega), ht, nI_clamp (n := base + q) (by omega), hI.1.1 25 _ (by omega), sk q hq]
      refine ⟨fun z => absurd ((nI_leI (by omega) (by omega)).mp z) (by omega), fun _ => ⟨vp_in_nI (by omega) (by decide), ?_⟩⟩
      refine v_addArg hI.2 hm al (by rw [List.length_take]; omega) ho (by omega) hl' (by omega) (fun s' R' o' => ?_)
      rw [xqv_v]
      intro x4 e4
      rw [show (1 : Int32) = nI 1 from rfl, nI_add] at e4
      subst e4
      refine hs s' ⟨hI.1.trans o', ?_⟩
      have et : as.take (q + 1) = as.take q ++ [as.getD q 0] := by
        rw [List.take_add_one, List.getD_eq_getElem?_getD, List.getElem?_eq_getElem hq]
        rfl
      rw [et]
      exact R'
  unfold wp_Reader_giveArguments
  rw [nI_clamp (n := bma B) (by omega), x7, show (10 : Int32) = nI 10 from rfl, nI_eq (by omega) (by decide)]
  refine ⟨vp_in_nI hm (by decide), fun z => ?_, fun z => ⟨vp_in_nI hm (by decide), fun s5 e5 => ?_⟩⟩
  · exact loop 0 σ (by decide) (by rw [if_neg z]) (oB.refl _) R
  · obtain ⟨h1, h2⟩ := hlo z
    rw [h1] at e5
    refine loop lo s5 h2 (by rw [if_pos z]) (by rw [e5]; exact oB.pi _ _ _ _ (by decide)) ?_
    rw [e5]
    exact RC_lo R
end CT2
section CT3
variable {c : Nat → Nat} {l N : Nat} {B : Bk} {top nb i j : Nat} {σ : xS} {Q : xO → xS → Prop}
theorem v_isSame {p q : Nat} (H : okN c l N) (S : CS c l N B top nb i σ) (h5 : tK c l i = 5) (hp : p ≤ q) (hq : q ≤ l) (k : Q (.inl (some (.int (bI (decide (wtx c p q = tW c l i)))))) σ) : wp_Text_isSame Q σ (nI p) (nI q) := by
  obtain ⟨a, b, R, e, f, g', hx, hi, c1, c2, c3, c4⟩ := S
  have t2 := tok_2 (c := c) (l := l) (i := i) (by omega) (by omega)
  have l1 := H.2.1
  have ew : wtx c p q = tW c l i ↔ q - p = tE c l i - tF c l i ∧ ∀ k, k < tE c l i - tF c l i → c (p + k) = c (tF c l i + k) := by
    rw [wtx_eq, tW_len]
    constructor
    · rintro ⟨h1, h⟩
      exact ⟨h1, fun k hk => by rw [h k hk]; exact tW_at (by rw [tW_len]; exact hk)⟩
    · rintro ⟨h1, h⟩
      exact ⟨h1, fun k hk => by rw [h k hk, tW_at (by rw [tW_len]; exact hk)]⟩
  unfold wp_Text_isSame
  rw [c2, c3, nI_sub (by omega), nI_sub hp, nI_eq (by omega) (by omega)]
  refine ⟨fun z x1 e1 => ?_, fun z => ?_⟩
  · subst e1
    have key := loop_i (σ := Unit) (fun m r _ => w_Text_isSame_22 Q m (nI p) (nI (tF c l i + r)) σ) (fun r _ => ∀ k, k < r → c (p + k) = c (tF c l i + k)) (tE c l i - tF c l i) (fun m _ hI => ?_) (fun m r _ hr hI hs => ?_)
    · exact ⟨_, key (tE c l i - tF c l i + 1) 0 () (by omega) (by omega) (fun k h => absurd h (by omega))⟩
    · unfold w_Text_isSame_22
      rw [c3]
      refine ⟨fun _ => ?_, fun y => absurd ((nI_leI (by omega) (by omega)).mpr (by omega)) y⟩
      rw [decide_eq_true (ew.mpr ⟨z.symm, hI⟩)] at k
      exact k
    · have b1 := a.2.2.1 (tF c l i + r) (by omega)
      have b2 := a.2.2.1 (p + r) (by omega)
      unfold w_Text_isSame_22
      rw [c3, c2, nI_add, nI_sub (by omega), show p + (tF c l i + r) - tF c l i = p + r by omega, nI_clamp (n := tF c l i + r) (by omega), nI_clamp (n := p + r) (by omega), b1.2, b2.2, sb_sb b1.1 b2.1, nI_leI (by omega) (by omega)]
      refine ⟨fun y => absurd y (by omega), fun _ => ⟨vp_in_nI (by omega) (by decide), vp_in_nI (by omega) (by decide), fun y x2 e2 => ?_, fun y => ?_⟩⟩
      · rw [show (1 : Int32) = nI 1 from rfl, nI_add] at e2
        subst e2
        refine hs () (fun k' hk' => ?_)
        by_cases q' : k' = r
        · rw [q']; exact y.symm
        · exact hI k' (by omega)
      · rw [decide_eq_false (fun h => y ((ew.mp h).2 r hr).symm)] at k
        exact k
  · rw [decide_eq_false (fun h => z (ew.mp h).1.symm)] at k
    exact k
theorem v_opPlain (H : okN c l N) (S : CS c l N B top nb i σ) (k0 : tK c l i ≠ 0) (kf : ∀ e σ', pOp c l i = .error e → FL B e σ σ' → Q (.inr 0) σ') (ko : ∀ o, pOp c l i = .ok (o, 0, 0, i) → 13 ≤ o → Q (.inl (some (.int (nI o)))) σ) : wp_Reader_plainOperator Q σ := by
  have u : pOp c l i = match tR c l i with
    | none => .error (badT c l i)
    | some o => if 13 ≤ o then .ok (o, 0, 0, i) else .error (badT c l i) := by unfold pOp; rw [if_neg k0]; rfl
  have ca := S.2.2.2.2.2.2.2.2
  unfold wp_Reader_plainOperator
  rw [ca.2.2.2]
  cases e : tR c l i with
  | none =>
    rw [e] at u
    refine ⟨fun z => absurd z (by decide), fun _ => v_failHere H S (fun σ' f => ?_)⟩
    rw [xqi_e]
    exact kf _ σ' u f
  | some o =>
    rw [e] at u
    have ol := tR_lt e
    dsimp only at u
    show (13 ≤ nI o → _) ∧ _
    rw [show supI (some o) = nI o from rfl, show (13 : Int32) = nI 13 from rfl, nI_leI (by decide) (by omega)]
    refine ⟨fun z => ko o (u.trans (if_pos z)) z, fun z => v_failHere H S (fun σ' f => ?_)⟩
    rw [xqi_e]
    exact kf _ σ' (u.trans (if_neg z)) f
/-- as oJ, and the numerals kept -/
def oJ2 (σ σ' : xS) : Prop := (∀ a b, ¬ (a = 1 ∧ b ∈ jS) → ¬ (a = 24 ∧ (b = 10 ∨ b = 11)) → xi σ' a b = xi σ a b) ∧ (∀ a b, xl σ' a b = xl σ a b) ∧ xb σ' = xb σ
theorem oJ2.F {σ σ' : xS} (h : oJ2 σ σ') : FR top nb σ σ' := ⟨⟨fun a b q => h.1 a b (fun z => q (.inl ⟨z.1, fun e => absurd z.2 (by rw [e]; decide), fun e => absurd z.2 (by rw [e]; decide), fun e => absurd z.2 (by rw [e]; decide), fun e => absurd z.2 (by rw [e]; decide)⟩)) (fun z => q (.inr (.inr (by omega)))), fun a b _ _ => h.2.1 a b⟩, fun j _ => h.1 25 j (by omega) (by omega), fun a b q1 q2 _ => h.1 a b (by omega) (by omega), h.2.2⟩
theorem oJ.two {σ σ' : xS} (h : oJ jS σ σ') : oJ2 σ σ' := ⟨fun a b q _ => h.1 a b q, h.2.1, h.2.2⟩
theorem oJ2.trans {σ σ' σ2 : xS} (h : oJ2 σ σ') (h2 : oJ2 σ' σ2) : oJ2 σ σ2 := ⟨fun a b q q' => (h2.1 a b q q').trans (h.1 a b q q'), fun a b => (h2.2.1 a b).trans (h.2.1 a b), h2.2.2.trans h.2.2⟩
theorem oJ2.pi {σ : xS} {b : Nat} {x : Int32} (h : b = 10 ∨ b = 11) : oJ2 σ (xpi σ 24 b x) := ⟨fun a' b' _ q => by rw [xi_pi, if_neg (fun z => q ⟨z.1, by omega⟩)], fun _ _ => rfl, rfl⟩
theorem CS.pi24 {b : Nat} {x : Int32} (S : CS c l N B top nb i σ) (h : b = 10 ∨ b = 11) : CS c l N B top nb i (xpi σ 24 b x) := by
  obtain ⟨⟨t1, t2, t3, t4⟩, p, d, e, f, g, hx, hi, c1, c2, c3, c4⟩ := S
  have q : ∀ a b', ¬ (a = 24 ∧ b' = b) → xi (xpi σ 24 b x) a b' = xi σ a b' := fun a b' z => by rw [xi_pi, if_neg z]
  exact ⟨⟨(q 1 1 (by omega)).trans t1, t2, fun k hk => ⟨(t3 k hk).1, (q 2 k (by omega)).trans (t3 k hk).2⟩, fun n hn => (q 4 n (by omega)).trans (t4 n hn)⟩, ⟨p.1, (q 1 5 (by omega)).trans p.2⟩, d.pi _ _ _ (.inl (by decide)), (q 1 6 (by omega)).trans e, (q 24 4 (by omega)).trans f, (q 24 9 (by omega)).trans g, hx, hi, (q 1 9 (by omega)).trans c1, (q 1 10 (by omega)).trans c2, (q 1 11 (by omega)).trans c3, (q 1 12 (by omega)).trans c4⟩
theorem v_opIndexed (H : okN c l N) (S : CS c l N B top nb i σ) (k0 : tK c l i = 0) (kf : ∀ e σ', pOp c l i = .error e → FL B e σ σ' → Q (.inr 0) σ') (ko : ∀ o h lo j σ', pOp c l i = .ok (o, h, lo, j) → CS c l N B top nb j σ' → oJ2 σ σ' → xi σ' 24 10 = nI h → xi σ' 24 11 = nI lo → Q (.inl (some (.int (nI o)))) σ') : wp_Reader_indexedOperator Q σ := by
  have b0 := H.lt S.2.2.2.2.2.2.2.1 (by omega)
  have u : pOp c l i = eb (pXR c l (i + 1) 4) fun _ => match tR c l (i + 2) with
    | none => .error (badT c l (i + 2))
    | some o => if 10 ≤ o ∧ o ≤ 12 then
        eb (pN c l (i + 3) 0 2147483647) fun h => if o = 10 then eb (pN c l (i + 4) 0 h) fun lo => eb (pX c l (i + 5) 1) fun _ => .ok (o, h, lo, i + 5) else eb (pX c l (i + 4) 1) fun _ => .ok (o, h, 0, i + 4)
      else .error (badT c l (i + 2)) := by unfold pOp; rw [if_pos k0]; rfl
  unfold wp_Reader_indexedOperator
  refine v_expR (r0 := 4) H (by decide) (S.n b0) (fun e σ' h f => ?_) (fun σ1 h1 S1 o1 => ?_)
  · rw [xqv_e]
    exact kf e σ' (u.trans (eb_er h)) f
  rw [xqv_v]
  rw [eb_ok h1] at u
  have b1 := H.lt S1.2.2.2.2.2.2.2.1 (by have := (tok_R (pXR_i h1)).1; omega)
  refine v_next H (S1.n b1) (fun σ2 S2 o2 => ?_)
  rw [xqv_v]
  have O2 := o1.trans o2
  have ca := S2.2.2.2.2.2.2.2.2
  rw [ca.2.2.2]
  intro x5 e5
  have fl : pOp c l i = .error (badT c l (i + 2)) → w_Reader_indexedOperator_32 Q σ2 := fun q => by
    unfold w_Reader_indexedOperator_32
    refine v_failHere H S2 (fun σ' f => ?_)
    rw [xqi_e]
    exact kf _ σ' q (FL.j O2 f)
  cases er : tR c l (i + 2) with
  | none =>
    have er' : tR c l (i + 1 + 1) = none := er
    rw [er'] at e5
    subst e5
    rw [er] at u
    exact ⟨fun _ => fl u, fun z => absurd (by decide) z⟩
  | some o =>
    have er' : tR c l (i + 1 + 1) = some o := er
    have ol := tR_lt er
    rw [er'] at e5
    have e5 : x5 = nI o := e5
    subst e5
    rw [er] at u
    dsimp only at u
    rw [show (10 : Int32) = nI 10 from rfl, show (12 : Int32) = nI 12 from rfl, nI_ltI (by omega) (by decide), nI_leI (by omega) (by decide), nI_eq (by omega) (by decide)]
    refine ⟨fun z => fl (u.trans (if_neg (by omega))), fun z => ⟨fun z2 => ?_, fun z2 => fl (u.trans (if_neg (by omega)))⟩⟩
    rw [if_pos ⟨by omega, z2⟩] at u
    have b2 := H.lt S2.2.2.2.2.2.2.2.1 (by have := (tok_R er').1; omega)
    refine v_num H (S2.n b2) (fun e σ' q1 q2 f => ?_) (fun h σ3 g1 g2 g3 S3 o3 => ?_)
    · rw [xqi_e]
      refine kf e σ' (u.trans (eb_er ?_)) (FL.j O2 f)
      show pN c l (i + 1 + 1 + 1) 0 2147483647 = _
      unfold pN
      by_cases q : tK c l (i + 1 + 1 + 1) = 2
      · obtain ⟨q3, q4⟩ := q1 q
        rw [if_pos q, if_neg (by omega), q4]
      · rw [if_neg q, q2 q]
    · rw [xqi_i]
      have pn : pN c l (i + 3) 0 2147483647 = .ok h := by
        show pN c l (i + 1 + 1 + 1) 0 2147483647 = _
        unfold pN
        rw [if_pos g1, if_pos (by rw [← g2]; omega), g2]
      rw [eb_ok pn] at u
      have b3 := H.lt S3.2.2.2.2.2.2.2.1 (by omega)
      intro s10 e10
      have S10 : CS c l N B top nb (i + 1 + 1 + 1) s10 := by rw [e10]; exact S3.pi24 (.inl rfl)
      have O3 : oJ2 σ s10 := (O2.trans o3).two.trans (by rw [e10]; exact oJ2.pi (.inl rfl))
      have x10 : xi s10 24 10 = nI h := by rw [e10, xi_pi, if_pos ⟨rfl, rfl⟩]
      have w63 : ∀ (lo j : Nat) (s : xS), CS c l N B top nb j s → oJ2 σ s → xi s 24 10 = nI h → lo ≤ h → j < N → pOp c l i = eb (pX c l (j + 1) 1) (fun _ => .ok (o, h, lo, j + 1)) → w_Reader_indexedOperator_63 Q (nI o) (nI lo) s := fun lo j s Ss Os xs lh jN us => by
        unfold w_Reader_indexedOperator_63
        intro s11 e11
        have S11 : CS c l N B top nb j s11 := by rw [e11]; exact Ss.pi24 (.inr rfl)
        have O11 : oJ2 σ s11 := Os.trans (by rw [e11]; exact oJ2.pi (.inr rfl))
        have y10 : xi s11 24 10 = nI h := by rw [e11, xi_pi, if_neg (by decide)]; exact xs
        have y11 : xi s11 24 11 = nI lo := by rw [e11, xi_pi, if_pos ⟨rfl, rfl⟩]
        rw [y10, y11, nI_leI (by omega) (by omega)]
        refine ⟨fun _ => ?_, fun n => absurd lh n⟩
        refine v_expect (k0 := 1) H (by decide) (S11.n jN) (fun e σ' h f => ?_) (fun σ4 h4 S4 o4 => ?_)
        · rw [xqv_e]
          exact kf e σ' (us.trans (eb_er h)) (FL.pre (top := 0) (nb := 0) O11.F (bex.refl _) f)
        · rw [xqv_v]
          exact ko o h lo (j + 1) σ4 (us.trans (eb_ok h4)) S4 (O11.trans o4.two) ((o4.1 24 10 (fun z => absurd z.1 (by decide))).trans y10) ((o4.1 24 11 (fun z => absurd z.1 (by decide))).trans y11)
      refine ⟨fun n10 => ?_, fun y10 => ?_⟩
      · rw [if_neg n10] at u
        exact w63 0 (i + 1 + 1 + 1) s10 S10 O3 x10 (Nat.zero_le _) b3 u
      · rw [if_pos y10] at u
        refine v_num H (S10.n b3) (fun e σ' q1 q2 f => ?_) (fun lo σ4 g4 g5 g6 S4 o4 => ?_)
        · rw [xqi_e]
          refine kf e σ' (u.trans (eb_er ?_)) (FL.pre (top := 0) (nb := 0) O3.F (bex.refl _) f)
          show pN c l (i + 1 + 1 + 1 + 1) 0 h = _
          unfold pN
          by_cases q : tK c l (i + 1 + 1 + 1 + 1) = 2
          · obtain ⟨q3, q4⟩ := q1 q
            rw [if_pos q, if_neg (by omega), q4]
          · rw [if_neg q, q2 q]
        · rw [xqi_i]
          have b4 := H.lt S4.2.2.2.2.2.2.2.1 (by omega)
          have O4 := O3.trans o4.two
          have x4 : xi σ4 24 10 = nI h := (o4.1 24 10 (fun z => absurd z.1 (by decide))).trans x10
          by_cases lh : lo ≤ h
          · have pn2 : pN c l (i + 4) 0 h = .ok lo := by
              show pN c l (i + 1 + 1 + 1 + 1) 0 h = _
              unfold pN
              rw [if_pos g4, if_pos (by rw [← g5]; omega), g5]
            rw [eb_ok pn2] at u
            exact w63 lo (i + 1 + 1 + 1 + 1) σ4 S4 O4 x4 lh b4 u
          · have pn2 : pN c l (i + 4) 0 h = .error (7, tF c l (i + 4)) := by
              show pN c l (i + 1 + 1 + 1 + 1) 0 h = _
              unfold pN
              rw [if_pos g4, if_neg (by rw [← g5]; omega)]
            rw [eb_er pn2] at u
            unfold w_Reader_indexedOperator_63
            intro s11 e11
            have S11 : CS c l N B top nb (i + 1 + 1 + 1 + 1) s11 := by rw [e11]; exact S4.pi24 (.inr rfl)
            have O11 : oJ2 σ s11 := O4.trans (by rw [e11]; exact oJ2.pi (.inr rfl))
            have y10 : xi s11 24 10 = nI h := by rw [e11, xi_pi, if_neg (by decide)]; exact x4
            have y11 : xi s11 24 11 = nI lo := by rw [e11, xi_pi, if_pos ⟨rfl, rfl⟩]
            rw [y10, y11, nI_leI (by omega) (by omega)]
            refine ⟨fun y => absurd y lh, fun _ => ?_⟩
            refine v_fail (ek := 7) (ep := tF c l (i + 4)) S11.2.2.1 S11.2.2.2.2.2.2.1 rfl S11.2.2.2.2.2.2.2.2.2.1 (fun σ' f => ?_)
            rw [xqi_e]
            exact kf _ σ' u (FL.pre (top := 0) (nb := 0) O11.F (bex.refl _) f)
end CT3
