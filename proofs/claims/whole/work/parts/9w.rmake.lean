/-! THE REFERENCE READS: a new term; constants and symbols -/
section RMK
variable {c : Nat → Nat} {l N : Nat} {B : Bk} {i j p nb : Nat} {σ σ' : xS} {Q : xO → xS → Prop} {E : Nat → Nat × Nat × Bool} {Lt : Nat → Nat} {vis : Vis}
theorem RR_T {op so lo w : Nat} {bits : BitVec 64} {as : List Nat} (R : RR B σ) (g : gB B) (h11 : xi σ' 50 11 = nI (bma B + 1)) (h21 : xi σ' 50 21 = nI (bfi B (bma B) + as.length)) (h44 : xi σ' 50 44 = nI w) (hc : ∀ j, j ∈ [23, 27, 42, 45] → xi σ' 50 j = xi σ 50 j)
    (r56 : xi σ' 56 (bma B) = nI (opr op)) (r57 : xi σ' 57 (bma B) = nI (so / 128)) (r58 : xi σ' 58 (bma B) = nI (so % 128)) (r59 : xi σ' 59 (bma B) = nI (bfi B (bma B))) (r60 : xi σ' 60 (bma B) = nI as.length) (r62 : op = 10 → xi σ' 62 (bma B) = nI lo) (r64 : op = 48 → xl σ' 64 (bma B) = jL bits)
    (hr : ∀ k t, 56 ≤ k → k ≤ 63 → t < bma B → xi σ' k t = xi σ k t) (hl : ∀ t, t < bma B → xl σ' 64 t = xl σ 64 t) (h65 : ∀ i, i < bfi B (bma B) → xi σ' 65 i = xi σ 65 i) (a65 : ∀ k, k < as.length → xi σ' 65 (bfi B (bma B) + k) = nI (as.getD k 0)) (ho : ∀ k j, (66 ≤ k ∧ k ≤ 69) ∨ k = 80 → xi σ' k j = xi σ k j) : RR (addT (wtB B w) op so lo bits as) σ' := by
  have em : bma (wtB B w) = bma B := wB_m
  have e0 : ∀ a b, ¬ (a = 6 ∧ b = 10) → (wtB B w).1 a b = B.1 a b := fun a b h => wB_k h
  have m1 : bma (addT (wtB B w) op so lo bits as) = bma B + 1 := by rw [aT_m, em]
  have a5 : ∀ j, (addT (wtB B w) op so lo bits as).1 5 j = B.1 5 j := fun j => by rw [aT_5, e0 5 j (by omega)]
  have a7 : ∀ j, (addT (wtB B w) op so lo bits as).1 7 j = if j = bma B then op else B.1 7 j := fun j => by rw [aT_7, em, e0 7 j (by omega)]
  have a8 : ∀ j, (addT (wtB B w) op so lo bits as).1 8 j = if j = bma B then so else B.1 8 j := fun j => by rw [aT_8, em, e0 8 j (by omega)]
  have a9 : ∀ j, (addT (wtB B w) op so lo bits as).1 9 j = if j = bma B + 1 then bfi B (bma B) + as.length else B.1 9 j := fun j => by rw [aT_9, em, e0 9 j (by omega), show bfi (wtB B w) (bma B) = bfi B (bma B) from e0 9 _ (by omega)]
  have a10 : ∀ j, (addT (wtB B w) op so lo bits as).1 10 j = if bfi B (bma B) ≤ j ∧ j < bfi B (bma B) + as.length then as.getD (j - bfi B (bma B)) 0 else B.1 10 j := fun j => by rw [aT_10, em, e0 10 j (by omega), show bfi (wtB B w) (bma B) = bfi B (bma B) from e0 9 _ (by omega)]
  have a11 : ∀ j, (addT (wtB B w) op so lo bits as).1 11 j = if j = bma B then lo else B.1 11 j := fun j => by rw [aT_11, em, e0 11 j (by omega)]
  have ak : ∀ k j, 16 ≤ k → (addT (wtB B w) op so lo bits as).1 k j = B.1 k j := fun k j h => by rw [aT_k h, e0 k j (by omega)]
  have a2 : ∀ j, (addT (wtB B w) op so lo bits as).2 j = if j = bma B then bits else B.2 j := fun j => by
    rw [aT_2, em]
    rfl
  have aw : bwe (addT (wtB B w) op so lo bits as) = w := by rw [aT_w]; exact wB_w
  have fe : bfi (addT (wtB B w) op so lo bits as) (bma (addT (wtB B w) op so lo bits as)) = bfi B (bma B) + as.length := by
    rw [m1]
    show (addT (wtB B w) op so lo bits as).1 9 _ = _
    rw [a9, if_pos rfl]
  obtain ⟨⟨c1, c2, c3, c4, c5, c6, c7⟩, d1, d2, d3, d4, d5, d6⟩ := R
  refine ⟨⟨?_, ?_, ?_, ?_, ?_, ?_, ?_⟩, fun t ht => ?_, fun i hi => ?_, fun n hn => ?_, fun i hi => ?_, fun i hi => ?_, fun i hi => ?_⟩
  · rw [m1]; exact h11
  · rw [fe]; exact h21
  · rw [hc 23 (by decide), c3]; exact congrArg nI (a5 4).symm
  · rw [hc 27 (by decide), c4]; exact congrArg nI (a5 10).symm
  · rw [hc 42 (by decide), c5]; exact congrArg nI (a5 8).symm
  · rw [aw]; exact h44
  · rw [hc 45 (by decide), c7]
    show nI (B.1 21 (B.1 5 8)) = nI ((addT (wtB B w) op so lo bits as).1 21 ((addT (wtB B w) op so lo bits as).1 5 8))
    rw [a5, ak 21 _ (by decide)]
  · rw [m1] at ht
    show xi σ' 56 t = nI (opr ((addT (wtB B w) op so lo bits as).1 7 t)) ∧ xi σ' 57 t = nI ((addT (wtB B w) op so lo bits as).1 8 t / 128) ∧ xi σ' 58 t = nI ((addT (wtB B w) op so lo bits as).1 8 t % 128) ∧ xi σ' 59 t = nI ((addT (wtB B w) op so lo bits as).1 9 t) ∧ xi σ' 60 t = nI ((addT (wtB B w) op so lo bits as).1 9 (t + 1) - (addT (wtB B w) op so lo bits as).1 9 t) ∧ ((addT (wtB B w) op so lo bits as).1 7 t = 10 → xi σ' 62 t = nI ((addT (wtB B w) op so lo bits as).1 11 t)) ∧ ((addT (wtB B w) op so lo bits as).1 7 t = 48 → xl σ' 64 t = jL ((addT (wtB B w) op so lo bits as).2 t))
    rw [a7, a8, a9, a9, a11, a2]
    by_cases q : t = bma B
    · rw [if_pos q, if_pos q, if_pos q, if_pos q, if_pos (show t + 1 = bma B + 1 by omega), if_neg (show ¬ t = bma B + 1 by omega), q]
      refine ⟨r56, r57, r58, r59, ?_, r62, r64⟩
      rw [Nat.add_sub_cancel_left]
      exact r60
    · have ht' : t < bma B := by omega
      rw [if_neg q, if_neg q, if_neg q, if_neg q, if_neg (show ¬ t + 1 = bma B + 1 by omega), if_neg (show ¬ t = bma B + 1 by omega), hr 56 t (by decide) (by decide) ht', hr 57 t (by decide) (by decide) ht', hr 58 t (by decide) (by decide) ht', hr 59 t (by decide) (by decide) ht', hr 60 t (by decide) (by decide) ht', hr 62 t (by decide) (by decide) ht', hl t ht']
      exact d1 t ht'
  · rw [fe] at hi
    show _ = nI ((addT (wtB B w) op so lo bits as).1 10 i)
    rw [a10]
    by_cases q : bfi B (bma B) ≤ i
    · have := a65 (i - bfi B (bma B)) (by omega)
      rw [show bfi B (bma B) + (i - bfi B (bma B)) = i by omega] at this
      rw [if_pos ⟨q, hi⟩]
      exact this
    · rw [if_neg (fun z => q z.1), h65 i (by omega)]
      exact d2 i (by omega)
  · have hn : n < B.1 5 4 := by rw [← a5]; exact hn
    rw [ho 66 n (by omega), ho 67 n (by omega), ak 17 _ (by decide), ak 18 _ (by decide)]
    exact d3 n hn
  · have hi : i < B.1 17 (B.1 5 4) := by
      have z : i < (addT (wtB B w) op so lo bits as).1 17 ((addT (wtB B w) op so lo bits as).1 5 4) := hi
      rw [a5, ak 17 _ (by decide)] at z
      exact z
    rw [ho 68 i (by omega), ak 16 _ (by decide)]
    exact d4 i hi
  · have hi : i < B.1 5 10 := by rw [← a5]; exact hi
    show _ = nI ((addT (wtB B w) op so lo bits as).1 22 i)
    rw [ho 69 i (by omega), ak 22 _ (by decide)]
    exact d5 i hi
  · have hi : i < B.1 5 8 := by rw [← a5]; exact hi
    show _ = nI ((addT (wtB B w) op so lo bits as).1 19 i) ∧ xi σ' 63 ((addT (wtB B w) op so lo bits as).1 19 i) = _
    rw [ho 80 i (by omega), ak 19 _ (by decide), ak 20 _ (by decide), hr 63 _ (by decide) (by decide) (g.1.2.2.2.2.1 i hi).1]
    exact d6 i hi
/-- a term has been made -/
def MK (B : Bk) (o ix wd w : Nat) (σ σ' : xS) : Prop := (xi σ' 50 11 = nI (bma B + 1) ∧ xi σ' 50 44 = nI w ∧ xi σ' 56 (bma B) = nI o ∧ xi σ' 57 (bma B) = nI ix ∧ xi σ' 58 (bma B) = nI wd ∧ xi σ' 59 (bma B) = nI (bfi B (bma B)) ∧ xi σ' 60 (bma B) = nI 0 ∧ xl σ' 64 (bma B) = jL 0#64) ∧
  (∀ a b, ¬ (a = 50 ∧ (b = 11 ∨ b = 44)) → ¬ (56 ≤ a ∧ a ≤ 63 ∧ b = bma B) → xi σ' a b = xi σ a b) ∧ (∀ a b, ¬ (a = 64 ∧ b = bma B) → xl σ' a b = xl σ a b) ∧ xb σ' = xb σ
theorem r_make {o ix wd wt beg q : Nat} (R : RR B σ) (g : gB B) (h4 : xi σ 50 4 = nI 0) (h10 : xi σ 50 10 = nI q) (hq : q ≤ 65536) (hw : wt < 1073741824) (kf : ∀ e σ', (∀ op so lo bits as, pMk B beg op so lo bits as wt = .error e) → RFl B e σ σ' → Q (.inl (some (.int 0))) σ') (ko : ∀ σ', bma B < 2000 → bwe B + wt ≤ 100000 → MK B o ix wd (bwe B + wt) σ σ' → Q (.inl (some (.int (nI (bma B))))) σ') : wp_VectorSolverModel_make Q σ (nI o) (nI ix) (nI wd) (nI wt) (nI beg) := by
  have m1 := g.1.1.1
  have m2 := g.1.1.2.2.2.2.2.2
  unfold wp_VectorSolverModel_make
  rw [R.1.1, show (2000 : Int32) = nI 2000 from rfl, nI_leI (by decide) (by omega)]
  refine ⟨fun z => ?_, fun z => ?_⟩
  · unfold w_VectorSolverModel_make_16
    refine r_wantF (B := B) (ek := 11) (ep := beg) R h4 h10 hq rfl rfl rfl (by decide) (fun σ' f => ?_)
    rw [xqi_i]
    refine ⟨fun _ => kf (11, beg) σ' (fun op so lo bits as => ?_) f, fun y => absurd rfl y⟩
    unfold pMk
    rw [if_pos z]
  have e11 := R.1.1
  have v11 : vp_in (nI (bma B)) 2000 := vp_in_nI (by omega) (by decide)
  have cl : (nI (bma B)).toNatClampNeg = bma B := nI_clamp (by omega)
  unfold w_VectorSolverModel_make_16
  refine r_wantT h4 (by decide) ?_
  rw [xqi_i, R.1.2.2.2.2.2.1, nI_add, show (100000 : Int32) = nI 100000 from rfl, nI_ltI (by decide) (by omega)]
  refine ⟨fun y => absurd y (by decide), fun _ => ⟨fun y => ?_, fun y => ?_⟩⟩
  · unfold w_VectorSolverModel_make_44
    refine r_wantF (B := B) (ek := 12) (ep := beg) R h4 h10 hq rfl rfl rfl (by decide) (fun σ' f => ?_)
    rw [xqi_i]
    refine ⟨fun x => absurd rfl x, fun _ => kf (12, beg) σ' (fun op so lo bits as => ?_) f⟩
    unfold pMk
    rw [if_neg z, if_pos y]
  unfold w_VectorSolverModel_make_44
  refine r_wantT h4 (by decide) ?_
  rw [xqi_i, R.1.2.2.2.2.2.1, nI_add]
  refine ⟨fun _ => ?_, fun x => absurd x (by decide)⟩
  intro s5 e5
  have q5 : xi s5 50 11 = nI (bma B) := by rw [e5, xi_pi, if_neg (by omega)]; exact e11
  rw [q5, cl]
  refine ⟨v11, fun s6 e6 => ?_⟩
  have q6 : xi s6 50 11 = nI (bma B) := by rw [e6, xi_pi, if_neg (by omega)]; exact q5
  rw [q6, cl]
  refine ⟨v11, fun s7 e7 => ?_⟩
  have q7 : xi s7 50 11 = nI (bma B) := by rw [e7, xi_pi, if_neg (by omega)]; exact q6
  rw [q7, cl]
  refine ⟨v11, fun s8 e8 => ?_⟩
  have q8 : xi s8 50 11 = nI (bma B) := by rw [e8, xi_pi, if_neg (by omega)]; exact q7
  have q21 : xi s8 50 21 = nI (bfi B (bma B)) := by rw [e8, xi_pi, if_neg (by omega), e7, xi_pi, if_neg (by omega), e6, xi_pi, if_neg (by omega), e5, xi_pi, if_neg (by omega)]; exact R.1.2.1
  rw [q8, cl, q21]
  refine ⟨v11, fun s9 e9 => ?_⟩
  have q9 : xi s9 50 11 = nI (bma B) := by rw [e9, xi_pi, if_neg (by omega)]; exact q8
  rw [q9, cl]
  refine ⟨v11, fun s10 e10 => ?_⟩
  have q10 : xi s10 50 11 = nI (bma B) := by rw [e10, xi_pi, if_neg (by omega)]; exact q9
  rw [q10, cl]
  refine ⟨v11, fun s11 e11' => ?_⟩
  have q11 : xi s11 50 11 = nI (bma B) := by rw [e11', xi_pi, if_neg (by omega)]; exact q10
  rw [q11, cl]
  refine ⟨v11, fun s12 e12 => ?_⟩
  have q12 : xi s12 50 11 = nI (bma B) := by rw [e12, xi_pi, if_neg (by omega)]; exact q11
  rw [q12, cl]
  refine ⟨v11, fun s13 e13 => ?_⟩
  have q13 : xi s13 50 11 = nI (bma B) := by rw [e13, xi_pi, if_neg (by omega)]; exact q12
  rw [q13, cl]
  refine ⟨v11, fun s14 e14 s15 e15 => ?_⟩
  have q14 : xi s14 50 11 = nI (bma B) := by rw [e14, xi_pl]; exact q13
  rw [q14, show (1 : Int32) = nI 1 from rfl, nI_add] at e15
  have q15 : xi s15 50 11 = nI (bma B + 1) := by rw [e15, xi_pi, if_pos ⟨rfl, rfl⟩]
  rw [q15, show (1 : Int32) = nI 1 from rfl, nI_sub (by omega), Nat.add_sub_cancel]
  refine ko s15 (by omega) (by omega) ⟨⟨q15, ?_, ?_, ?_, ?_, ?_, ?_, ?_⟩, fun a b h1 h2 => ?_, fun a b h => ?_, ?_⟩
  · rw [e15, xi_pi, if_neg (by omega), e14, xi_pl, e13, xi_pi, if_neg (by omega), e12, xi_pi, if_neg (by omega), e11', xi_pi, if_neg (by omega), e10, xi_pi, if_neg (by omega), e9, xi_pi, if_neg (by omega), e8, xi_pi, if_neg (by omega), e7, xi_pi, if_neg (by omega), e6, xi_pi, if_neg (by omega), e5, xi_pi, if_pos ⟨rfl, rfl⟩]
  · rw [e15, xi_pi, if_neg (by omega), e14, xi_pl, e13, xi_pi, if_neg (by omega), e12, xi_pi, if_neg (by omega), e11', xi_pi, if_neg (by omega), e10, xi_pi, if_neg (by omega), e9, xi_pi, if_neg (by omega), e8, xi_pi, if_neg (by omega), e7, xi_pi, if_neg (by omega), e6, xi_pi, if_pos ⟨rfl, rfl⟩]
  · rw [e15, xi_pi, if_neg (by omega), e14, xi_pl, e13, xi_pi, if_neg (by omega), e12, xi_pi, if_neg (by omega), e11', xi_pi, if_neg (by omega), e10, xi_pi, if_neg (by omega), e9, xi_pi, if_neg (by omega), e8, xi_pi, if_neg (by omega), e7, xi_pi, if_pos ⟨rfl, rfl⟩]
  · rw [e15, xi_pi, if_neg (by omega), e14, xi_pl, e13, xi_pi, if_neg (by omega), e12, xi_pi, if_neg (by omega), e11', xi_pi, if_neg (by omega), e10, xi_pi, if_neg (by omega), e9, xi_pi, if_neg (by omega), e8, xi_pi, if_pos ⟨rfl, rfl⟩]
  · rw [e15, xi_pi, if_neg (by omega), e14, xi_pl, e13, xi_pi, if_neg (by omega), e12, xi_pi, if_neg (by omega), e11', xi_pi, if_neg (by omega), e10, xi_pi, if_neg (by omega), e9, xi_pi, if_pos ⟨rfl, rfl⟩]
  · rw [e15, xi_pi, if_neg (by omega), e14, xi_pl, e13, xi_pi, if_neg (by omega), e12, xi_pi, if_neg (by omega), e11', xi_pi, if_neg (by omega), e10, xi_pi, if_pos ⟨rfl, rfl⟩]
    rfl
  · rw [e15, xl_pi, e14, xl_pl, if_pos ⟨rfl, rfl⟩]
    rfl
  · rw [e15, xi_pi, if_neg (by omega), e14, xi_pl, e13, xi_pi, if_neg (by omega), e12, xi_pi, if_neg (by omega), e11', xi_pi, if_neg (by omega), e10, xi_pi, if_neg (by omega), e9, xi_pi, if_neg (by omega), e8, xi_pi, if_neg (by omega), e7, xi_pi, if_neg (by omega), e6, xi_pi, if_neg (by omega), e5, xi_pi, if_neg (by omega)]
  · rw [e15, xl_pi, e14, xl_pl, if_neg h, e13, xl_pi, e12, xl_pi, e11', xl_pi, e10, xl_pi, e9, xl_pi, e8, xl_pi, e7, xl_pi, e6, xl_pi, e5, xl_pi]
  · rw [e15, e14, e13, e12, e11', e10, e9, e8, e7, e6, e5]
    rfl
/-- a term without arguments has been added: only the book changes -/
def oA (σ σ' : xS) : Prop := (∀ a b, ¬ (a = 50 ∧ (b = 11 ∨ b = 21 ∨ b = 44)) → ¬ (56 ≤ a ∧ a ≤ 65) → xi σ' a b = xi σ a b) ∧ (∀ a b, a ≠ 64 → xl σ' a b = xl σ a b) ∧ xb σ' = xb σ
theorem oA.refl (σ : xS) : oA σ σ := ⟨fun _ _ _ _ => rfl, fun _ _ _ => rfl, rfl⟩
theorem oA.S (h : oA σ σ') : oS σ σ' := ⟨fun a b q => h.1 a b (fun z => q (by unfold rcl; omega)) (fun z => q (by unfold rcl; omega)), h.2.1, h.2.2⟩
theorem RS.A {B' : Bk} (S : RS c l N B i σ) (h : oA σ σ') (R : RR B' σ') : RS c l N B' i σ' := S.k h.S (h.1 50 4 (by omega) (by omega)) (h.1 50 5 (by omega) (by omega)) (h.1 50 10 (by omega) (by omega)) R
/-- a constant term is whole once its value is laid -/
theorem MK.const {so w : Nat} {bits : BitVec 64} {σ2 : xS} (R : RR B σ) (g : gB B) (hs : so ≤ 64) (h : MK B 1 0 so w σ σ') (hx : ∀ a b, xi σ2 a b = xi σ' a b) (hl : ∀ a b, ¬ (a = 64 ∧ b = bma B) → xl σ2 a b = xl σ' a b) (hv : xl σ2 64 (bma B) = jL bits) (hb : xb σ2 = xb σ') : RR (addT (wtB B w) 48 so 0 bits []) σ2 ∧ oA σ σ2 := by
  obtain ⟨⟨m1, m2, m3, m4, m5, m6, m7, m8⟩, f1, f2, f3⟩ := h
  refine ⟨RR_T R g ?_ ?_ ?_ (fun j hj => ?_) ?_ ?_ ?_ ?_ ?_ (fun z => absurd z (by decide)) (fun _ => hv) (fun k t h1 h2 h3 => ?_) (fun t ht => ?_) (fun i hi => ?_) (fun k hk => absurd hk (by simp)) (fun k j hk => ?_), fun a b q1 q2 => ?_, fun a b q => ?_, ?_⟩
  · rw [hx]; exact m1
  · rw [hx, f1 50 21 (by omega) (by omega)]; exact R.1.2.1
  · rw [hx]; exact m2
  · rw [hx, f1 50 j (by revert j; decide) (by omega)]
  · rw [hx]; exact m3
  · rw [hx, m4, show so / 128 = 0 by omega]
  · rw [hx, m5, show so % 128 = so by omega]
  · rw [hx]; exact m6
  · rw [hx]; exact m7
  · rw [hx, f1 k t (by omega) (by omega)]
  · rw [hl 64 t (by omega), f2 64 t (by omega)]
  · rw [hx, f1 65 i (by omega) (by omega)]
  · rw [hx, f1 k j (by omega) (by omega)]
  · rw [hx, f1 a b (by omega) (by omega)]
  · rw [hl a b (by omega), f2 a b (by omega)]
  · rw [hb, f3]
theorem r_const (H : okN c l N) (g : gB B) (S : RS c l N B i σ) (h : tK c l i = 3 ∨ tK c l i = 4) (kf : ∀ e σ' x, pAt c l vis B i = .error e → RFl B e σ σ' → Q (.inl (some (.int x))) σ') (ko : ∀ r σ', pAt c l vis B i = .ok r → RS c l N r.2.1 r.2.2 σ' → oA σ σ' → Q (.inl (some (.int (nI r.1)))) σ') : wp_VectorSolverModel_constant Q σ := by
  have n1 := H.1
  have l1 := H.2.1
  obtain ⟨T, P, R, e, f, x10, hi, -⟩ := id S
  obtain ⟨p1, p2, p3, p4⟩ := P.t hi
  have t3 := tok_34 (c := c) (l := l) (i := i) h
  have t2 := tok_2 (c := c) (l := l) (i := i) (by omega) (by omega)
  have vi : vp_in (nI i) 65537 := vp_in_nI (by omega) (by decide)
  have m1 := g.1.1.1
  have key : ∀ s, (tK c l i = 3 ∧ s = 1 ∨ tK c l i = 4 ∧ s = 4) → w_VectorSolverModel_constant_18 Q (nI s) σ := fun s hs => by
    have tl := tW_len (c := c) (l := l) (i := i)
    have so64 : s * (tE c l i - tF c l i - 2) ≤ 64 := by
      rcases hs with hs | hs
      · have := (t3.2.1 hs.1).1; rw [hs.2]; omega
      · have := (t3.2.2 hs.1).1; rw [hs.2]; omega
    have u : ∀ D, D = s * (tE c l i - tF c l i - 2) → pAt c l vis B i = eb (pMk B (tF c l i) 48 D 0 (cst s (tW c l i)) [] D) fun r => .ok (r.1, r.2, i) := fun D hD => by
      unfold pAt
      rcases hs with hs | hs
      · rw [if_neg (by omega), if_pos hs.1, hs.2, tl, hD, hs.2, Nat.one_mul]
      · rw [if_neg (by omega), if_neg (by omega), if_pos hs.1, hs.2, tl, hD, hs.2, Nat.mul_comm 4]
    have dg : ∀ k, tF c l i + 2 ≤ k → k < tE c l i → ∃ v, dgv (c k) = some v ∧ v < 16 := fun k k1 k2 => by
      have hd : ∃ bb, dlt (dgv (c k)) bb = true := by
        rcases hs with h | h
        · exact ⟨2, of_decide_eq_true (t3.2.1 h.1).2 k k2 k1⟩
        · exact ⟨16, of_decide_eq_true (t3.2.2 h.1).2 k k2 k1⟩
      obtain ⟨bb, hd⟩ := hd
      cases q : dgv (c k) with
      | none => rw [q] at hd; cases hd
      | some v => exact ⟨v, rfl, dgv_lt q⟩
    have ec : cst s (tW c l i) = cstA s (wtx c (tF c l i + 2) (tE c l i)) := by
      unfold cst cstA tW
      rw [wtx_drop2]
    have hs64 : s < 64 := by omega
    unfold w_VectorSolverModel_constant_18
    rw [x10, nI_clamp (n := i) (by omega), p2, p3, nI_sub (by omega), show (2 : Int32) = nI 2 from rfl, nI_sub (by omega), nI_mul]
    refine ⟨vi, vi, fun x1 e1 => ⟨vi, ?_⟩⟩
    subst e1
    generalize hD : s * (tE c l i - tF c l i - 2) = D at *
    have u := u D rfl
    refine r_make (B := B) (o := 1) (ix := 0) (wd := D) (wt := D) (beg := tF c l i) R g e x10 (by omega) (by omega) (fun er σ' hm f => ?_) (fun s1 b1 b2 M => ?_)
    · rw [xqi_i]
      refine ⟨f.2.2.2.2.v, fun x4 e4 => ⟨1, ?_⟩⟩
      unfold w_VectorSolverModel_constant_74
      have fe := kf er σ' 0 (u.trans (eb_er (hm _ _ _ _ _))) f
      exact ⟨f.2.2.2.2.v, fun _ => fe, fun _ => ⟨fun _ => fe, fun z => absurd z f.2.2.2.2.1⟩⟩
    rw [xqi_i]
    rw [eb_ok (pMk_ok b1 b2)] at u
    have fr := M.2.1
    have y10 : xi s1 50 10 = nI i := (fr 50 10 (by omega) (by omega)).trans x10
    rw [y10, nI_clamp (n := i) (by omega), fr 53 i (by omega) (by omega), p2, nI_add]
    refine ⟨vi, fun x4 e4 => ?_⟩
    subst e4
    have lp := loop_i (σ := xS) (fun m q s2 => w_VectorSolverModel_constant_74 Q m (nI s) (nI (bma B)) (nI q) s2) (fun q s2 => tF c l i + 2 ≤ q ∧ (∀ a b, xi s2 a b = xi s1 a b) ∧ (∀ a b, ¬ (a = 64 ∧ b = bma B) → xl s2 a b = xl s1 a b) ∧ xl s2 64 (bma B) = jL (cstA s (wtx c (tF c l i + 2) q)) ∧ xb s2 = xb s1) (tE c l i) (fun m s2 hI => ?_) (fun m q s2 hq hI hs2 => ?_)
    · have e0 : cstA s (wtx c (tF c l i + 2) (tF c l i + 2)) = 0#64 := by unfold wtx; rw [Nat.sub_self]; rfl
      exact ⟨_, lp (tE c l i + 1) (tF c l i + 2) s1 (by omega) (by omega) ⟨Nat.le_refl _, fun _ _ => rfl, fun _ _ _ => rfl, by rw [e0]; exact M.1.2.2.2.2.2.2.2, rfl⟩⟩
    · obtain ⟨j1, j2, j3, j4, j5⟩ := hI
      unfold w_VectorSolverModel_constant_74
      rw [j2, y10, nI_clamp (n := i) (by omega), j2, fr 54 i (by omega) (by omega), p3]
      refine ⟨vi, fun _ => ?_, fun z => absurd (Int32.le_refl _) z⟩
      rw [← ec] at j4
      obtain ⟨R2, A2⟩ := MK.const R g so64 M j2 j3 j4 j5
      exact ko _ s2 u (S.A A2 R2) A2
    · obtain ⟨j1, j2, j3, j4, j5⟩ := hI
      obtain ⟨v, hv, v1⟩ := dg q j1 hq
      have bb := T.2.2 q (by omega)
      unfold w_VectorSolverModel_constant_74
      rw [j2, y10, nI_clamp (n := i) (by omega), j2, fr 54 i (by omega) (by omega), p3, j2, fr 50 4 (by omega) (by omega), e, j2, nI_clamp (n := q) (by omega), fr 51 q (by omega) (by omega), bb.2, nI_leI (by omega) (by omega)]
      refine ⟨vi, fun z => absurd z (by omega), fun _ => ⟨fun z => absurd rfl z, fun _ => ⟨vp_in_nI (by omega) (by decide), vp_in_nI (by omega) (by decide), ?_⟩⟩⟩
      refine r_digit bb.1 ?_
      rw [xqi_i]
      refine ⟨vp_in_nI (by omega) (by decide), fun s7 e7 x8 e8 => ?_⟩
      rw [nI_clamp (n := bma B) (by omega), j4, hv, show supI (some v) = nI v from rfl, jL_i2l (by omega), jL_shl _ hs64, jL_or] at e7
      have sn : cstA s (wtx c (tF c l i + 2) (q + 1)) = (cstA s (wtx c (tF c l i + 2) q) <<< s) ||| BitVec.ofNat 64 v := by
        rw [wtx_snoc j1, cstA_snoc, hv]
        rfl
      rw [← sn] at e7
      rw [show (1 : Int32) = nI 1 from rfl, nI_add] at e8
      subst e8
      exact hs2 s7 ⟨by omega, fun a b => by rw [e7, xi_pl]; exact j2 a b, fun a b z => by rw [e7, xl_pl, if_neg z]; exact j3 a b z, by rw [e7, xl_pl, if_pos ⟨rfl, rfl⟩], by rw [e7]; exact j5⟩
  have t1 := (tK_32 (j := i) H).1
  unfold wp_VectorSolverModel_constant
  rw [x10, nI_clamp (n := i) (by omega), p1, show (4 : Int32) = nI (3 + 1) from rfl, rk_k _ t1 _ (by decide)]
  refine ⟨vi, fun z => ?_, fun z => key 1 (.inl ⟨z, rfl⟩)⟩
  exact key 4 (.inr ⟨by omega, rfl⟩)
end RMK
