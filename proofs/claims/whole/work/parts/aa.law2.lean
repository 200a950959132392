/-! THE LAW: texts, searches, reading; and the loop -/
section LAW2
variable {B : Bk} {eff fs ft len m L : Nat} {f : Option Nat} {c : Nat → Nat} {σ σ' : xS} {Q : xO → xS → Prop} {K : Int32 → xS → Prop} {xs : Nat → Int32} {a4 : Int32}
theorem WW.s {sup : Option Nat} {a : Nat} {r : Option Nat} (W : WW B eff f fs ft) (hc : can B eff) (h : leastOK B sup a r) : WW B (eff - bma B * 2 ^ bsz B) r (bsz B) (bth B) := by
  obtain ⟨w1, w2, w3, w4, -⟩ := W
  refine ⟨w1, w2, w3, by omega, fun x hx => ?_⟩
  rw [hx] at h
  exact ⟨h.2.1, hc.1, Nat.le_refl _, rfl⟩
theorem law_379 {b : Bool} {r : Int32} {s3 : xS} (hb : r = bI b) (ho : xl s3 84 0 = jL (if b = true then 1#64 else 0#64)) (nx : ∀ x, x = a4 + 6 → K x s3) (P : Int64 → Int64 → xS → Prop) (hP : ∀ t0 t1, t0 = t1 → P t0 t1 s3) : (r = 0 → P (xl s3 84 (0 : Int32).toNatClampNeg) 0 s3) ∧ (¬ r = 0 → P (xl s3 84 (0 : Int32).toNatClampNeg) 1 s3) := by
  rw [show (0 : Int32).toNatClampNeg = 0 by decide, ho, hb]
  cases b with
  | true => exact ⟨fun z => absurd z (by decide), fun _ => hP _ _ rfl⟩
  | false => exact ⟨fun _ => hP _ _ rfl, fun z => absurd rfl z⟩
theorem law_4 (I : INV σ (m + 1)) (nx : ∀ s, INV s m → ∀ x, x = a4 + 6 → K x s) : lc_4 L xs Q K a4 σ := by
  obtain ⟨B, eff, f, fs, ft, c, len, I⟩ := I
  unfold lc_4 wp_VectorSolverLaw_check_0_84
  refine v_check I.1 I.2.2.1 I.xb1 (fun hc σ1 r o1 C1 L1 => ?_) (fun hc => ?_)
  · rw [xqi_i]
    have go : ∀ s3 v, s3 = xpl σ1 84 0 v → v = jL (if r.isSome = true then 1#64 else 0#64) → xqi (fun r31 u30 => wp_VectorSolverModel_check (xqi (fun r33 u32 => wp_VectorSolverModel_thrown (xqi (fun r35 u34 => ((r35 = r31 → ((¬ r31 = 0 → (∀ x36 : Int32, x36 = a4 + 6 → K x36 u34)) ∧ (r31 = 0 → (vp_in 0 1 ∧ ((r33 = 0 → w_VectorSolverLaw_law_379 L xs Q K a4 (xl u34 84 (0 : Int32).toNatClampNeg) 0 u34) ∧ (¬ r33 = 0 → w_VectorSolverLaw_law_379 L xs Q K a4 (xl u34 84 (0 : Int32).toNatClampNeg) 1 u34)))))) ∧ (¬ r35 = r31 → Q (.inl (some (.int 0))) u34))) (fun n u => Q (.inr n) u)) u32 ) (fun n u => Q (.inr n) u)) u30 ) (fun n u => Q (.inr n) u) (.inl (some (.int 0))) s3 := fun s3 v e3 ev => by
      rw [xqi_i]
      have C3 : CC B s3 (eff - bma B * 2 ^ bsz B) r (bsz B) (bth B) := by rw [e3]; exact C1.keep (fun _ _ _ => rfl) (fun a b q => by rw [xl_pl, if_neg (by omega)])
      have R3 : CR B s3 eff f fs := by rw [e3]; exact CR.o (I.2.1.keep (fun a b q => o1.1 a b q) (fun a b q => o1.2.1 a b q)) _
      refine r_check R3 I.2.2.1 (fun _ s r' o R c0 L2 => ?_) (fun hn => absurd hc hn)
      rw [xqi_i]
      unfold wp_VectorSolverModel_thrown
      rw [xqi_i, c0]
      have er : r' = r := least_uq L2 L1
      subst er
      have nx' := nx s ⟨_, _, _, _, _, _, _, I.l.s (fun a b q => by rw [e3]; exact o1.1 a b q) (fun a b q1 q2 => by rw [e3]; exact o1.2.2.1 a b q1 q2) (by rw [e3]; exact o1.2.2.2) C3 o R (I.2.2.1.s hc L1)⟩
      refine ⟨fun _ => ⟨fun z => absurd rfl z, fun _ => ⟨v01, ?_⟩⟩, fun z => absurd rfl z⟩
      refine law_379 (K := K) (a4 := a4) (b := r'.isSome) rfl ?_ nx' (fun t0 t1 s => w_VectorSolverLaw_law_379 L xs Q K a4 t0 t1 s) (fun t0 t1 e => ?_)
      · rw [o.2.2.2.2.2 84 0 (by decide), e3, xl_pl, if_pos ⟨rfl, rfl⟩, ev]
      · unfold w_VectorSolverLaw_law_379
        exact law_cmp e nx'
    refine ⟨fun z => ⟨v01, fun s3 e3 => ?_⟩, fun z => ⟨v01, fun s3 e3 => ?_⟩⟩
    · rw [out0] at e3
      refine go s3 _ e3 ?_
      cases q : r.isSome with
      | true => rw [q] at z; exact absurd z (by decide)
      | false => rfl
    · rw [out0] at e3
      refine go s3 _ e3 ?_
      cases q : r.isSome with
      | true => rfl
      | false => rw [q] at z; exact absurd rfl z
  · rw [xqi_e]
    refine ⟨rfl, ?_⟩
    rw [xqi_i]
    refine r_check I.x.2.1 I.x.2.2.1 (fun hn => absurd hn hc) (fun _ s y o R c1 => ?_)
    rw [xqi_i]
    unfold wp_VectorSolverModel_thrown
    rw [xqi_i, c1]
    exact ⟨fun _ => ⟨fun _ => nx s ⟨_, _, _, _, _, _, _, I.x.r o R⟩, fun z => absurd z (by decide)⟩, fun z => absurd rfl z⟩
theorem law_5 (I : INV σ (m + 1)) (nx : ∀ s, INV s m → ∀ x, x = a4 + 6 → K x s) : lc_5 L xs Q K a4 σ := by
  obtain ⟨B, eff, f, fs, ft, c, len, I⟩ := I
  unfold lc_5 wp_VectorSolverLaw_more_0_84
  refine v_more I.1 I.2.2.1 I.xb1 (fun hc σ1 r o1 C1 L1 => ?_) (fun hc => ?_)
  · rw [xqi_i]
    have go : ∀ s3 v, s3 = xpl σ1 84 0 v → v = jL (if r.isSome = true then 1#64 else 0#64) → xqi (fun r31 u30 => wp_VectorSolverModel_more (xqi (fun r33 u32 => wp_VectorSolverModel_thrown (xqi (fun r35 u34 => ((r35 = r31 → ((¬ r31 = 0 → (∀ x36 : Int32, x36 = a4 + 6 → K x36 u34)) ∧ (r31 = 0 → (vp_in 0 1 ∧ ((r33 = 0 → w_VectorSolverLaw_law_430 L xs Q K a4 (xl u34 84 (0 : Int32).toNatClampNeg) 0 u34) ∧ (¬ r33 = 0 → w_VectorSolverLaw_law_430 L xs Q K a4 (xl u34 84 (0 : Int32).toNatClampNeg) 1 u34)))))) ∧ (¬ r35 = r31 → Q (.inl (some (.int 0))) u34))) (fun n u => Q (.inr n) u)) u32 ) (fun n u => Q (.inr n) u)) u30 ) (fun n u => Q (.inr n) u) (.inl (some (.int 0))) s3 := fun s3 v e3 ev => by
      rw [xqi_i]
      have C3 : CC B s3 (eff - bma B * 2 ^ bsz B) r (bsz B) (bth B) := by rw [e3]; exact C1.keep (fun _ _ _ => rfl) (fun a b q => by rw [xl_pl, if_neg (by omega)])
      have R3 : CR B s3 eff f fs := by rw [e3]; exact CR.o (I.2.1.keep (fun a b q => o1.1 a b q) (fun a b q => o1.2.1 a b q)) _
      refine r_more R3 I.2.2.1 (fun _ s r' o R c0 L2 => ?_) (fun hn => absurd hc hn)
      rw [xqi_i]
      unfold wp_VectorSolverModel_thrown
      rw [xqi_i, c0]
      have er : r' = r := least_uq L2 L1
      subst er
      have nx' := nx s ⟨_, _, _, _, _, _, _, I.l.s (fun a b q => by rw [e3]; exact o1.1 a b q) (fun a b q1 q2 => by rw [e3]; exact o1.2.2.1 a b q1 q2) (by rw [e3]; exact o1.2.2.2) C3 o R (I.2.2.1.s hc L1)⟩
      refine ⟨fun _ => ⟨fun z => absurd rfl z, fun _ => ⟨v01, ?_⟩⟩, fun z => absurd rfl z⟩
      refine law_379 (K := K) (a4 := a4) (b := r'.isSome) rfl ?_ nx' (fun t0 t1 s => w_VectorSolverLaw_law_430 L xs Q K a4 t0 t1 s) (fun t0 t1 e => ?_)
      · rw [o.2.2.2.2.2 84 0 (by decide), e3, xl_pl, if_pos ⟨rfl, rfl⟩, ev]
      · unfold w_VectorSolverLaw_law_430
        exact law_cmp e nx'
    refine ⟨fun z => ⟨v01, fun s3 e3 => ?_⟩, fun z => ⟨v01, fun s3 e3 => ?_⟩⟩
    · rw [out0] at e3
      refine go s3 _ e3 ?_
      cases q : r.isSome with
      | true => rw [q] at z; exact absurd z (by decide)
      | false => rfl
    · rw [out0] at e3
      refine go s3 _ e3 ?_
      cases q : r.isSome with
      | true => rfl
      | false => rw [q] at z; exact absurd rfl z
  · rw [xqi_e]
    refine ⟨rfl, ?_⟩
    rw [xqi_i]
    refine r_more I.x.2.1 I.x.2.2.1 (fun hn => absurd hn hc) (fun _ s y o R c1 => ?_)
    rw [xqi_i]
    unfold wp_VectorSolverModel_thrown
    rw [xqi_i, c1]
    exact ⟨fun _ => ⟨fun _ => nx s ⟨_, _, _, _, _, _, _, I.x.r o R⟩, fun z => absurd z (by decide)⟩, fun z => absurd rfl z⟩
theorem law_6 (I : INV σ (m + 1)) (v1 : vp_in (a4 + 1) L) (nx : ∀ s, INV s m → ∀ x, x = a4 + 6 → K x s) : lc_6 L xs Q K a4 σ := by
  obtain ⟨B, eff, f, fs, ft, c, len, I⟩ := I
  have hn : bna B ≤ 500 := I.2.2.2.1.1.1.2.2.2.2.2.1
  unfold lc_6 wp_VectorSolverLaw_suppose_0_84
  have te : ∀ {r6 r2 r4 : Int32} {u5 : xS}, r6 = r2 → ¬ r2 = 0 → (∀ x, x = a4 + 6 → K x u5) → ((r6 = r2 → ((¬ r2 = 0 → (∀ x52 : Int32, x52 = a4 + 6 → K x52 u5)) ∧ (r2 = 0 → (vp_in 0 1 ∧ ((r4 = 0 → w_VectorSolverLaw_law_493 L xs Q K a4 (xl u5 84 (0 : Int32).toNatClampNeg) 0 u5) ∧ (¬ r4 = 0 → w_VectorSolverLaw_law_493 L xs Q K a4 (xl u5 84 (0 : Int32).toNatClampNeg) 1 u5)))))) ∧ (¬ r6 = r2 → Q (.inl (some (.int 0))) u5)) := fun h z n => ⟨fun _ => ⟨fun _ => n, fun y => absurd y z⟩, fun y => absurd h y⟩
  refine ⟨v1, v_suppose I.1 I.2.2.1 I.xb1 (fun n hi hs hc σ1 r o1 C1 L1 => ?_) (fun n hi hs hc => ?_) (fun hno => ?_)⟩
  · rw [xqi_i]
    have fin : ∀ s3 v, s3 = xpl σ1 84 0 v → v = jL (if r.isSome = true then 1#64 else 0#64) → xqi (fun r47 u46 => (vp_in (a4 + 1) L ∧ wp_VectorSolverModel_suppose (xqi (fun r49 u48 => wp_VectorSolverModel_thrown (xqi (fun r51 u50 => ((r51 = r47 → ((¬ r47 = 0 → (∀ x52 : Int32, x52 = a4 + 6 → K x52 u50)) ∧ (r47 = 0 → (vp_in 0 1 ∧ ((r49 = 0 → w_VectorSolverLaw_law_493 L xs Q K a4 (xl u50 84 (0 : Int32).toNatClampNeg) 0 u50) ∧ (¬ r49 = 0 → w_VectorSolverLaw_law_493 L xs Q K a4 (xl u50 84 (0 : Int32).toNatClampNeg) 1 u50)))))) ∧ (¬ r51 = r47 → Q (.inl (some (.int 0))) u50))) (fun n u => Q (.inr n) u)) u48 ) (fun n u => Q (.inr n) u)) u46 (xs (a4 + 1).toNatClampNeg))) (fun n u => Q (.inr n) u) (.inl (some (.int 0))) s3 := fun s3 v e3 ev => by
      rw [xqi_i]
      have C3 : CC B s3 (eff - bma B * 2 ^ bsz B) r (bsz B) (bth B) := by rw [e3]; exact C1.keep (fun _ _ _ => rfl) (fun a b q => by rw [xl_pl, if_neg (by omega)])
      have R3 : CR B s3 eff f fs := by rw [e3]; exact CR.o (I.2.1.keep (fun a b q => o1.1 a b q) (fun a b q => o1.2.1 a b q)) _
      refine ⟨v1, r_suppose R3 I.2.2.1 (fun n' hi' hs' _ s r' o R c0 L2 => ?_) (fun _ _ _ hn => absurd hc hn) (fun hno => absurd hs (hno n hi))⟩
      rw [xqi_i]
      unfold wp_VectorSolverModel_thrown
      rw [xqi_i, c0]
      have en : n' = n := nm_uq hn hi' hi
      rw [en] at L2
      have er : r' = r := least_uq L2 L1
      subst er
      have nx' := nx s ⟨_, _, _, _, _, _, _, I.l.s (fun a b q => by rw [e3]; exact o1.1 a b q) (fun a b q1 q2 => by rw [e3]; exact o1.2.2.1 a b q1 q2) (by rw [e3]; exact o1.2.2.2) C3 o R (I.2.2.1.s hc L1)⟩
      refine ⟨fun _ => ⟨fun z => absurd rfl z, fun _ => ⟨v01, ?_⟩⟩, fun z => absurd rfl z⟩
      refine law_379 (K := K) (a4 := a4) (b := r'.isSome) rfl ?_ nx' (fun t0 t1 s => w_VectorSolverLaw_law_493 L xs Q K a4 t0 t1 s) (fun t0 t1 e => ?_)
      · rw [o.2.2.2.2.2 84 0 (by decide), e3, xl_pl, if_pos ⟨rfl, rfl⟩, ev]
      · unfold w_VectorSolverLaw_law_493
        exact law_cmp e nx'
    refine ⟨fun z => ⟨v01, fun s3 e3 => ?_⟩, fun z => ⟨v01, fun s3 e3 => ?_⟩⟩
    · rw [out0] at e3
      refine fin s3 _ e3 ?_
      cases q : r.isSome with
      | true => rw [q] at z; exact absurd z (by decide)
      | false => rfl
    · rw [out0] at e3
      refine fin s3 _ e3 ?_
      cases q : r.isSome with
      | true => rfl
      | false => rw [q] at z; exact absurd rfl z
  · rw [xqi_e]
    refine .inr ⟨rfl, ?_⟩
    rw [xqi_i]
    refine ⟨v1, r_suppose I.x.2.1 I.x.2.2.1 (fun _ _ _ hn => absurd hn hc) (fun _ _ _ _ s y o R c1 => ?_) (fun hno => absurd hs (hno n hi))⟩
    rw [xqi_i]
    unfold wp_VectorSolverModel_thrown
    rw [xqi_i]
    exact te c1 (by decide) (nx s ⟨_, _, _, _, _, _, _, I.x.r o R⟩)
  · rw [xqi_e]
    refine .inl ⟨rfl, ?_⟩
    rw [xqi_i]
    refine ⟨v1, r_suppose I.x.2.1 I.x.2.2.1 (fun n hi hs => absurd hs (hno n hi)) (fun n hi hs => absurd hs (hno n hi)) (fun _ s y o R c1 => ?_)⟩
    rw [xqi_i]
    unfold wp_VectorSolverModel_thrown
    rw [xqi_i]
    exact te c1 (by decide) (nx s ⟨_, _, _, _, _, _, _, I.x.r o R⟩)
theorem ct_tb (T : TB σ c len) : CT σ len (fun i => sb (c i)) := ⟨T.1, T.2.1, fun i hi => (T.2.2.1 i hi).2⟩
theorem rt_tb (T : RTB σ c len) : RT σ len (fun i => sb (c i)) := ⟨T.1, T.2.1, fun i hi => (T.2.2 i hi).2⟩
/-- all bytes of a text -/
theorem byt_fn {tx : Nat → Int32} (h : ∀ i, i < len → ∃ b, b < 256 ∧ tx i = sb b) : ∃ c : Nat → Nat, ∀ i, i < len → c i < 256 ∧ tx i = sb (c i) := by
  refine ⟨fun i => if hi : i < len then (h i hi).choose else 0, fun i hi => ?_⟩
  dsimp only
  rw [dif_pos hi]
  exact (h i hi).choose_spec
theorem lay4_b {tx : Nat → Int32} {a : Int32} (h : ∀ i, i < len → ∃ b, b < 256 ∧ tx i = sb b) : ∀ i, i < len + 4 → ∃ b, b < 256 ∧ lay4 tx len a i = sb b := fun i _ => by
  unfold lay4
  by_cases q : i < len
  · rw [if_pos q]; exact h i q
  · rw [if_neg q]; exact byt_sb _ _
theorem lay20_b {a b d e g : Int32} (h : ∀ i, i < len → c i < 256) : ∀ i, i < len + 20 → ∃ b', b' < 256 ∧ lay20 (fun i => sb (c i)) len a b d e g i = sb b' := by
  unfold lay20
  have h0 : ∀ i, i < len → ∃ b', b' < 256 ∧ (fun i => sb (c i)) i = sb b' := fun i hi => ⟨c i, h i hi, rfl⟩
  exact lay4_b (lay4_b (lay4_b (lay4_b (lay4_b h0))))
/-- the texts have changed, alike -/
theorem IV.t {len' : Nat} {tx : Nat → Int32} {s1 : xS} (I : IV B eff f fs ft c len σ m) (o1 : oN [1, 2] [] σ s1) (h1 : ∀ j, j ≠ 1 → xi s1 1 j = xi σ 1 j) (T1 : CT s1 len' tx) (v : Int64) (o2 : onlyT (xpl s1 84 0 v) σ') (T2 : RT σ' len' tx) (hb : ∀ i, i < len' → ∃ b, b < 256 ∧ tx i = sb b) : INV σ' m := by
  obtain ⟨c', hc⟩ := byt_fn hb
  obtain ⟨C, R, W, g, ⟨t1, t2, t3, t4⟩, T', e1, e2, hx⟩ := I
  have q : ∀ a b, ¬ (a = 1 ∨ a = 2) → a < 50 → xi σ' a b = xi σ a b := fun a b z1 z2 => (o2.1 a b (by omega) (by omega)).trans (o1.1 a b (by simp; omega))
  have ql : ∀ a b, a ≠ 84 → xl σ' a b = xl σ a b := fun a b z => by rw [o2.2.1 a b, xl_pl, if_neg (by omega)]; exact o1.2.1 a b (by simp)
  have q1 : ∀ b, xi σ' 1 b = xi s1 1 b := fun b => o2.1 1 b (by omega) (by omega)
  have q50 : ∀ b, ¬ (b = 1 ∨ b = 3) → xi σ' 50 b = xi σ 50 b := fun b z => (o2.1 50 b (by omega) (by omega)).trans (o1.1 50 b (by simp))
  have qr : ∀ a b, 52 ≤ a → xi σ' a b = xi σ a b := fun a b z => (o2.1 a b (by omega) (by omega)).trans (o1.1 a b (by simp; omega))
  refine ⟨B, eff, f, fs, ft, c', len', ?_, ?_, W, g, ⟨(q1 1).trans T1.1, T1.2.1, fun i hi => ⟨(hc i hi).1, ?_⟩, fun n hn => (q 4 n (by omega) (by omega)).trans (t4 n hn)⟩, ⟨T2.1, T2.2.1, fun i hi => ⟨(hc i hi).1, (T2.2.2 i hi).trans (hc i hi).2⟩⟩, ?_, ?_, ?_⟩
  · obtain ⟨⟨r, m1, m2, z⟩, c1, c2, c3, c4⟩ := C
    exact ⟨⟨r.keep (fun a b z1 z2 => q a b (by omega) (by omega)) (fun a b z1 z2 => ql a b (by omega)), fun t ht => (q 36 t (by omega) (by omega)).trans (m1 t ht), fun t ht => (q 47 t (by omega) (by omega)).trans (m2 t ht), fun t ht => (ql 43 t (by omega)).trans (z t ht)⟩, (q 0 5 (by omega) (by omega)).trans c1, (q 30 17 (by omega) (by omega)).trans c2, (q 0 6 (by omega) (by omega)).trans c3, fun x hx => ⟨(q 0 7 (by omega) (by omega)).trans (c4 x hx).1, (q 0 8 (by omega) (by omega)).trans (c4 x hx).2.1, (q 0 9 (by omega) (by omega)).trans (c4 x hx).2.2⟩⟩
  · obtain ⟨R0, c1, c2, c3⟩ := R
    refine ⟨R0.k (fun j hj => q50 j (fun z => by rcases z with z | z <;> (rw [z] at hj; revert hj; decide))) (fun k j hk => qr k j (by omega)) (fun j => ql 64 j (by decide)), (ql 50 46 (by decide)).trans c1, (q50 50 (by omega)).trans c2, fun x hx => ⟨(ql 50 51 (by decide)).trans (c3 x hx).1, (q50 52 (by omega)).trans (c3 x hx).2⟩⟩
  · rw [o2.1 2 i (by omega) (by omega)]
    exact (T1.2.2 i hi).trans (hc i hi).2
  · rw [q1, h1 2 (by decide), q50 4 (by omega)]; exact e1
  · rw [q1, h1 3 (by decide), q50 5 (by omega)]; exact e2
  · rw [o2.2.2]
    show m ≤ xb s1
    rw [o1.2.2]; exact hx
/-- the reference alone has been told no -/
theorem IV.n (I : IV B eff f fs ft c len σ m) (o2 : onlyT σ σ') (T2 : RT σ' len (fun i => sb (c i))) : INV σ' m := by
  obtain ⟨C, R, W, g, ⟨t1, t2, t3, t4⟩, T', e1, e2, hx⟩ := I
  have q : ∀ a b, a < 50 → xi σ' a b = xi σ a b := fun a b z => o2.1 a b (by omega) (by omega)
  have q50 : ∀ b, ¬ (b = 1 ∨ b = 3) → xi σ' 50 b = xi σ 50 b := fun b z => o2.1 50 b (by omega) (by omega)
  obtain ⟨R0, c1, c2, c3⟩ := R
  refine ⟨B, eff, f, fs, ft, c, len, C.keep (fun a b z => q a b z) (fun a b _ => o2.2.1 a b), ⟨R0.k (fun j hj => q50 j (fun z => by rcases z with z | z <;> (rw [z] at hj; revert hj; decide))) (fun k j hk => o2.1 k j (by omega) (by omega)) (fun j => o2.2.1 64 j), (o2.2.1 50 46).trans c1, (q50 50 (by omega)).trans c2, fun x hx => ⟨(o2.2.1 50 51).trans (c3 x hx).1, (q50 52 (by omega)).trans (c3 x hx).2⟩⟩, W, g, ⟨(q 1 1 (by decide)).trans t1, t2, fun i hi => ⟨(t3 i hi).1, (q 2 i (by decide)).trans (t3 i hi).2⟩, fun n hn => (q 4 n (by decide)).trans (t4 n hn)⟩, ⟨T2.1, T2.2.1, fun i hi => ⟨(t3 i hi).1, T2.2.2 i hi⟩⟩, ?_, ?_, ?_⟩
  · rw [q 1 2 (by decide), q50 4 (by omega)]; exact e1
  · rw [q 1 3 (by decide), q50 5 (by omega)]; exact e2
  · rw [o2.2.2]; exact hx
theorem law_0 (I : INV σ (m + 1)) (v1 : vp_in (a4 + 1) L) (v2 : vp_in (a4 + 2) L) (v3 : vp_in (a4 + 3) L) (v4 : vp_in (a4 + 4) L) (v5 : vp_in (a4 + 5) L) (nx : ∀ s, INV s m → ∀ x, x = a4 + 6 → K x s) : lc_0 L xs Q K a4 σ := by
  obtain ⟨B, eff, f, fs, ft, c, len, I⟩ := I
  have cb : ∀ i, i < len → c i < 256 := fun i hi => (I.2.2.2.2.1.2.2.1 i hi).1
  unfold lc_0 wp_VectorSolverLaw_feed_0_84
  refine ⟨v1, v2, v3, v4, v5, v_feed (ct_tb I.2.2.2.2.1) I.xb1 (fun hl σ1 o1 h1 T1 => ?_) (fun hl => ?_)⟩
  · rw [xqi_i]
    refine ⟨v01, fun s3 e3 => ?_⟩
    rw [out0] at e3
    rw [xqi_i]
    have T3 : RT s3 len (fun i => sb (c i)) := by
      have T := rt_tb I.2.2.2.2.2.1
      rw [e3]
      exact ⟨(o1.1 50 3 (by decide)).trans T.1, T.2.1, fun i hi => (o1.1 51 i (by decide)).trans (T.2.2 i hi)⟩
    refine ⟨v1, v2, v3, v4, v5, r_feed T3 (fun _ σ2 o2 c0 T2 => ?_) (fun hn => absurd hl hn)⟩
    rw [xqi_i]
    unfold wp_VectorSolverModel_thrown
    rw [xqi_i]
    have o2' := o2
    rw [e3] at o2'
    refine law_tail c0 (fun _ => ?_) (nx σ2 (I.l.t o1 h1 T1 _ o2' T2 (lay20_b cb)))
    rw [o2.2.1 84 0, e3, xl_pl, if_pos ⟨rfl, rfl⟩]
  · rw [xqi_e]
    refine ⟨rfl, ?_⟩
    rw [xqi_i]
    refine ⟨v1, v2, v3, v4, v5, r_feed (rt_tb I.x.2.2.2.2.2.1) (fun hn => absurd hn hl) (fun _ σ2 y o2 c1 T2 => ?_)⟩
    rw [xqi_i]
    unfold wp_VectorSolverModel_thrown
    rw [xqi_i]
    exact law_tail c1 (fun w => absurd w (by decide)) (nx σ2 (I.x.n o2 T2))
theorem law_1 (I : INV σ (m + 1)) (v1 : vp_in (a4 + 1) L) (nx : ∀ s, INV s m → ∀ x, x = a4 + 6 → K x s) : lc_1 L xs Q K a4 σ := by
  obtain ⟨B, eff, f, fs, ft, c, len, I⟩ := I
  have cb : ∀ i, i < len → c i < 256 := fun i hi => (I.2.2.2.2.1.2.2.1 i hi).1
  unfold lc_1 wp_VectorSolverLaw_trim_0_84
  refine ⟨v1, v_trim (ct_tb I.2.2.2.2.1) I.xb1 (fun n hn h20 hle σ1 o1 h1 T1 => ?_) (fun hno => ?_)⟩
  · rw [xqi_i]
    refine ⟨v01, fun s3 e3 => ?_⟩
    rw [out0] at e3
    rw [xqi_i]
    have T3 : RT s3 len (fun i => sb (c i)) := by
      have T := rt_tb I.2.2.2.2.2.1
      rw [e3]
      exact ⟨(o1.1 50 3 (by decide)).trans T.1, T.2.1, fun i hi => (o1.1 51 i (by decide)).trans (T.2.2 i hi)⟩
    refine ⟨v1, r_trim T3 (fun n' hn' h20' hle' σ2 o2 c0 T2 => ?_) (fun hno => absurd ⟨h20, hle⟩ (hno n hn))⟩
    rw [xqi_i]
    unfold wp_VectorSolverModel_thrown
    rw [xqi_i]
    have en : n' = n := by
      have := hn'.symm.trans hn
      rw [nI_eq (by omega) (by omega)] at this
      exact this
    subst en
    have o2' := o2
    rw [e3] at o2'
    refine law_tail c0 (fun _ => ?_) (nx σ2 (I.l.t (o1.up (by decide) (by decide)) h1 T1 _ o2' T2 (fun i hi => ⟨c i, cb i (by omega), rfl⟩)))
    rw [o2.2.1 84 0, e3, xl_pl, if_pos ⟨rfl, rfl⟩]
  · rw [xqi_e]
    refine ⟨rfl, ?_⟩
    rw [xqi_i]
    refine ⟨v1, r_trim (rt_tb I.x.2.2.2.2.2.1) (fun n hn h20 hle => absurd ⟨h20, hle⟩ (hno n hn)) (fun _ σ2 y o2 c1 T2 => ?_)⟩
    rw [xqi_i]
    unfold wp_VectorSolverModel_thrown
    rw [xqi_i]
    exact law_tail c1 (fun w => absurd w (by decide)) (nx σ2 (I.x.n o2 T2))
theorem pAll_ok {l N : Nat} (H : okN c l N) : ∀ m B j n r, gB B → j ≤ N → pAll c l m B j n = .ok r → gB r.1 ∧ bex B r.1 := by
  intro m
  induction m with
  | zero =>
    intro B j n r g hj h
    unfold pAll at h
    cases h
    exact ⟨g, bex.refl _⟩
  | succ m ih =>
    intro B j n r g hj h
    unfold pAll at h
    split at h
    · cases h
      exact ⟨g, bex.refl _⟩
    · obtain ⟨q, h1, h⟩ := eb_inv h
      obtain ⟨⟨k1, k2, k3, k4, k5⟩, -⟩ := pCm_ok H g hj h1
      obtain ⟨a1, a2⟩ := ih _ _ _ _ k1 k4 h
      exact ⟨a1, k2.trans a2⟩
/-- both have read -/
theorem IV.rd {B' : Bk} {s1 : xS} (I : IV B eff f fs ft c len σ (m + 1)) (g' : gB B') (x : bex B B') (o1 : oV σ s1) (R1 : RC B' s1) (h11 : xi s1 1 1 = nI 0) (hx : xb s1 = xb σ ∨ xb s1 = xb σ - 1) (o2 : oW s1 σ') (R2 : RR B' σ') (h3 : xi σ' 50 3 = nI 0) (h4 : xi s1 1 2 = xi σ' 50 4) (h5 : xi s1 1 3 = xi σ' 50 5) : INV σ' m := by
  obtain ⟨C, R, W, g, ⟨t1, t2, t3, t4⟩, T', e1, e2, hb⟩ := I
  have qs : ∀ a b, a < 50 → xi σ' a b = xi s1 a b := fun a b z => o2.1 a b (by unfold rcl; omega) (by omega) (by omega)
  have qsl : ∀ a b, a ≠ 64 → xl σ' a b = xl s1 a b := fun a b z => o2.2.1 a b z
  refine ⟨B', eff, f, fs, ft, fun _ => 0, 0, ?_, ?_, ?_, g', ⟨(qs 1 1 (by decide)).trans h11, by decide, fun i hi => absurd hi (by omega), fun n hn => ?_⟩, ⟨h3, by decide, fun i hi => absurd hi (by omega)⟩, ?_, ?_, ?_⟩
  · obtain ⟨⟨r, m1, m2, z⟩, c1, c2, c3, c4⟩ := C
    have q : ∀ a b, a < 50 → ¬ (a = 1 ∨ (5 ≤ a ∧ a ≤ 29)) → xi σ' a b = xi σ a b := fun a b z1 z2 => (qs a b z1).trans (o1.1 a b z2)
    exact ⟨⟨R1.keep (fun a b z1 z2 => qs a b (by omega)) (fun a b z1 z2 => qsl a b (by omega)), fun t ht => (q 36 t (by omega) (by omega)).trans (m1 t ht), fun t ht => (q 47 t (by omega) (by omega)).trans (m2 t ht), fun t ht => ((qsl 43 t (by omega)).trans (o1.2 43 t (by decide) (by decide) (by decide))).trans (z t ht)⟩, (q 0 5 (by omega) (by omega)).trans c1, (q 30 17 (by omega) (by omega)).trans c2, (q 0 6 (by omega) (by omega)).trans c3, fun x hx => ⟨(q 0 7 (by omega) (by omega)).trans (c4 x hx).1, (q 0 8 (by omega) (by omega)).trans (c4 x hx).2.1, (q 0 9 (by omega) (by omega)).trans (c4 x hx).2.2⟩⟩
  · obtain ⟨-, c1, c2, c3⟩ := R
    have q : ∀ b, b = 50 ∨ b = 52 → xi σ' 50 b = xi σ 50 b := fun b z => (o2.1 50 b (by unfold rcl; omega) (by omega) (by omega)).trans (o1.1 50 b (by omega))
    have ql : ∀ b, xl σ' 50 b = xl σ 50 b := fun b => (qsl 50 b (by decide)).trans (o1.2 50 b (by decide) (by decide) (by decide))
    exact ⟨R2, (ql 46).trans c1, (q 50 (.inl rfl)).trans c2, fun x hx => ⟨(ql 51).trans (c3 x hx).1, (q 52 (.inr rfl)).trans (c3 x hx).2⟩⟩
  · obtain ⟨w1, w2, w3, w4, w5⟩ := W
    refine ⟨g'.1, g'.2.1, g'.2.2.1, w4, fun y hy => ?_⟩
    obtain ⟨y1, y2, y3, y4⟩ := w5 y hy
    refine ⟨y1, y2, Nat.le_trans y3 x.th, ?_⟩
    rw [← y4]
    exact x.1 21 ft (Nat.lt_succ_of_le y3)
  · rw [qs 4 n (by decide), o1.1 4 n (by omega)]; exact t4 n hn
  · rw [qs 1 2 (by decide)]; exact h4
  · rw [qs 1 3 (by decide)]; exact h5
  · rw [o2.2.2]; omega
theorem law_2 (I : INV σ (m + 1)) (nx : ∀ s, INV s m → ∀ x, x = a4 + 6 → K x s) : lc_2 L xs Q K a4 σ := by
  obtain ⟨B, eff, f, fs, ft, c, len, I⟩ := I
  obtain ⟨C, R, W, g, T, T', e1, e2, hb⟩ := id I
  obtain ⟨N, hN, hN1, hN2⟩ := tok_end c len
  have H : okN c len N := ⟨by have := T.2.1; omega, T.2.1, fun k hk => (T.2.2.1 k hk).1, hN1, hN2⟩
  have RT1 : ∀ s1, oV σ s1 → RTB s1 c len := fun s1 o => T'.keep (o.1 50 3 (by omega)) (fun b => o.1 51 b (by omega))
  have RR1 : ∀ s1, oV σ s1 → RR B s1 := fun s1 o => R.1.k (fun j _ => o.1 50 j (by omega)) (fun k j hk => o.1 k j (by omega)) (fun j => o.2 64 j (by decide) (by decide) (by decide))
  unfold lc_2
  refine v_read T C.1.1 g I.xb1 (fun e s1 he o1 R1 h11 h12 h13 hx => ?_) (fun r s1 hr g1 o1 R1 h11 h12 h13 hx => ?_)
  · rw [xqi_i]
    refine r_read (RT1 s1 o1) (RR1 s1 o1) g (fun e' s2 he' o2 R2 q1 q3 q4 q5 => ?_) (fun r s2 hr => ?_)
    · rw [xqi_i]
      have ee : e' = e := by
        have := he'.symm.trans he
        cases this
        rfl
      subst ee
      exact ⟨fun _ => nx s2 (I.rd g (bex.refl _) o1 R1 h11 (.inr hx) o2 R2 q3 (h12.trans q4.symm) (h13.trans q5.symm)), fun z => absurd rfl z⟩
    · have := he.symm.trans hr
      cases this
  · rw [xqi_i]
    refine r_read (RT1 s1 o1) (RR1 s1 o1) g (fun e' s2 he' => ?_) (fun r' s2 hr' o2 R2 q1 q3 q4 q5 => ?_)
    · have := he'.symm.trans hr
      cases this
    · rw [xqi_i]
      have ee : r' = r := by
        have := hr'.symm.trans hr
        cases this
        rfl
      subst ee
      obtain ⟨a1, a2⟩ := pAll_ok H _ _ _ _ _ g (Nat.zero_le _) hr
      exact ⟨fun _ => nx s2 (I.rd a1 a2 o1 R1 h11 (.inl hx) o2 R2 q3 (h12.trans q4.symm) (h13.trans q5.symm)), fun z => absurd rfl z⟩
/-- the law's loop -/
theorem law_loop (hQ : ∀ s, Q (.inl (some (.int 1))) s) (hL : L ≤ 3072) : ∀ m k σ, L ≤ 6 * (k + m) + 5 → 6 * k ≤ 4000 → INV σ m → w_VectorSolverLaw_law_23 L xs Q (m + 1) (nI (6 * k)) σ := by
  intro m
  have lt6 : ∀ L, L < 6 → (nI L : Int32) - 6 < nI 0 := by decide +kernel
  have cmp : ∀ k, 6 * k ≤ 4000 → ((Int32.ofNat L - 6 < nI (6 * k)) ↔ L < 6 * k + 6) := fun k hk => by
    show (nI L - 6 < nI (6 * k)) ↔ _
    by_cases q : L < 6
    · have h1 := lt6 L q
      have h2 : (nI 0 : Int32) ≤ nI (6 * k) := by rw [nI_leI (by decide) (by omega)]; omega
      exact ⟨fun _ => by omega, fun _ => Int32.lt_of_lt_of_le h1 h2⟩
    · rw [show (6 : Int32) = nI 6 from rfl, nI_sub (by omega), nI_ltI (by omega) (by omega)]
      omega
  induction m with
  | zero =>
    intro k σ h1 h2 _
    unfold w_VectorSolverLaw_law_23
    exact ⟨fun _ => hQ σ, fun z => absurd ((cmp k h2).mpr (by omega)) z⟩
  | succ m ih =>
    intro k σ h1 h2 I
    unfold w_VectorSolverLaw_law_23
    refine ⟨fun _ => hQ σ, fun z => ?_⟩
    have z : 6 * k + 6 ≤ L := by
      apply Classical.byContradiction
      intro n
      exact z ((cmp k h2).mpr (by omega))
    have ad : ∀ j, (nI (6 * k) : Int32) + nI j = nI (6 * k + j) := fun j => nI_add _ _
    have vv : ∀ j, j < 6 → vp_in (nI (6 * k) + nI j) L := fun j hj => by
      rw [ad]
      exact vp_in_nI (by omega) (by omega)
    have v0 : vp_in (nI (6 * k)) L := vp_in_nI (by omega) (by omega)
    have nx : ∀ s, INV s m → ∀ x, x = nI (6 * k) + 6 → w_VectorSolverLaw_law_23 L xs Q (m + 1) x s := fun s I x e => by
      rw [e, show (6 : Int32) = nI 6 from rfl, ad, show 6 * k + 6 = 6 * (k + 1) by omega]
      exact ih (k + 1) s (by omega) (by omega) I
    have il : INV σ m := by
      obtain ⟨B, eff, f, fs, ft, c, len, I⟩ := I
      exact ⟨B, eff, f, fs, ft, c, len, I.l⟩
    exact ⟨v0, fun _ => law_0 I (vv 1 (by decide)) (vv 2 (by decide)) (vv 3 (by decide)) (vv 4 (by decide)) (vv 5 (by decide)) nx, fun _ => law_1 I (vv 1 (by decide)) nx, fun _ => law_2 (L := L) (xs := xs) I nx, fun _ => law_3 I (vv 1 (by decide)) nx, fun _ => law_4 I nx, fun _ => law_5 I nx, fun _ => law_6 I (vv 1 (by decide)) nx, fun _ => law_7 I (vv 1 (by decide)) (vv 2 (by decide)) nx, fun _ => law_8 I (vv 1 (by decide)) nx, fun _ => law_9 (L := L) (xs := xs) I nx, fun _ => law_10 (L := L) (xs := xs) I nx, fun _ => law_11 I (vv 1 (by decide)) (vv 2 (by decide)) nx, fun _ => law_12 I (vv 1 (by decide)) nx, fun _ => nx σ il⟩
theorem law_ok (hQ : ∀ s, Q (.inl (some (.int 1))) s) (hL : L ≤ 3072) (I : INV σ 512) : wp_law L xs Q σ := by
  unfold wp_law
  exact ⟨513, law_loop hQ hL 512 0 σ (by omega) (by omega) I⟩
end LAW2
