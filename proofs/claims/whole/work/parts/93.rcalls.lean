/-- nothing of the class's, and nothing of the reference's text, has changed -/
def rOnly (σ σ' : xS) : Prop := (∀ a b, a < 50 → xi σ' a b = xi σ a b) ∧ (∀ a b, a < 50 → xl σ' a b = xl σ a b) ∧ (∀ b, xi σ' 51 b = xi σ 51 b) ∧ (xi σ' 50 3 = xi σ 50 3 ∧ xi σ' 50 4 = xi σ 50 4 ∧ xi σ' 50 5 = xi σ 50 5) ∧ xb σ' = xb σ ∧ ∀ a b, 84 ≤ a → xl σ' a b = xl σ a b
theorem rOnly.refl (σ : xS) : rOnly σ σ := ⟨fun _ _ _ => rfl, fun _ _ _ => rfl, fun _ => rfl, ⟨rfl, rfl, rfl⟩, rfl, fun _ _ _ => rfl⟩
theorem rOnly.trans {σ σ' σ2 : xS} (h : rOnly σ σ') (h2 : rOnly σ' σ2) : rOnly σ σ2 := ⟨fun a b q => (h2.1 a b q).trans (h.1 a b q), fun a b q => (h2.2.1 a b q).trans (h.2.1 a b q), fun b => (h2.2.2.1 b).trans (h.2.2.1 b), ⟨h2.2.2.2.1.1.trans h.2.2.2.1.1, h2.2.2.2.1.2.1.trans h.2.2.2.1.2.1, h2.2.2.2.1.2.2.trans h.2.2.2.1.2.2⟩, h2.2.2.2.2.1.trans h.2.2.2.2.1, fun a b q => (h2.2.2.2.2.2 a b q).trans (h.2.2.2.2.2 a b q)⟩
theorem rOnly.code (σ : xS) (x : Int32) : rOnly σ (xpi σ 50 1 x) := ⟨fun a b q => by rw [xi_pi, if_neg (by omega)], fun _ _ _ => rfl, fun b => by rw [xi_pi, if_neg (by omega)], ⟨by rw [xi_pi, if_neg (by decide)], by rw [xi_pi, if_neg (by decide)], by rw [xi_pi, if_neg (by decide)]⟩, rfl, fun _ _ _ => rfl⟩
theorem onlyS.toR {σ σ' : xS} (h : onlyS σ σ') : rOnly σ σ' := ⟨fun a b q => h.1 a b (by omega) (by omega) (by omega), fun a b q => h.2.1 a b (by omega) (by omega), fun b => h.1 51 b (by decide) (by decide) (by omega), ⟨h.1 50 3 (by decide) (by decide) (by decide), h.1 50 4 (by decide) (by decide) (by decide), h.1 50 5 (by decide) (by decide) (by decide)⟩, h.2.2, fun a b q => h.2.1 a b (by omega) (by omega)⟩
section RCALL
variable {B : Bk} {σ σ' : xS} {Q : xO → xS → Prop} {t J a eff fs ft : Nat} {f sup : Option Nat}
theorem CR.put (R : CR B σ eff f fs) (x : Int32) : CR B (xpi σ 50 1 x) eff f fs := by
  obtain ⟨⟨⟨a1, a2, a3, a4, a5, a6, a7⟩, b⟩, c1, c2, c3⟩ := R
  have q : ∀ j, j ≠ 1 → xi (xpi σ 50 1 x) 50 j = xi σ 50 j := fun j hj => by rw [xi_pi, if_neg (fun z => hj z.2)]
  have e : ∀ k j, k ≠ 50 → xi (xpi σ 50 1 x) k j = xi σ k j := fun k j hk => by rw [xi_pi, if_neg (fun z => hk z.1)]
  refine ⟨⟨⟨(q 11 (by decide)).trans a1, (q 21 (by decide)).trans a2, (q 23 (by decide)).trans a3, (q 27 (by decide)).trans a4, (q 42 (by decide)).trans a5, (q 44 (by decide)).trans a6, (q 45 (by decide)).trans a7⟩, fun t ht => ?_, fun i hi => ?_, fun n hn => ?_, fun i hi => ?_, fun i hi => ?_, fun i hi => ?_⟩, c1, (q 50 (by decide)).trans c2, fun y hy => ⟨(c3 y hy).1, (q 52 (by decide)).trans (c3 y hy).2⟩⟩
  · rw [e 56 t (by decide), e 57 t (by decide), e 58 t (by decide), e 59 t (by decide), e 60 t (by decide), e 62 t (by decide), xl_pi]; exact b.1 t ht
  · rw [e 65 i (by decide)]; exact b.2.1 i hi
  · rw [e 66 n (by decide), e 67 n (by decide)]; exact b.2.2.1 n hn
  · rw [e 68 i (by decide)]; exact b.2.2.2.1 i hi
  · rw [e 69 i (by decide)]; exact b.2.2.2.2.1 i hi
  · rw [e 80 i (by decide), e 63 _ (by decide)]; exact b.2.2.2.2.2 i hi
theorem RR.pl (h : RR B σ) (k j : Nat) (v : Int64) (hk : k ≠ 64) : RR B (xpl σ k j v) := by
  obtain ⟨a, b, c⟩ := h
  exact ⟨a, fun t ht => ⟨(b t ht).1, (b t ht).2.1, (b t ht).2.2.1, (b t ht).2.2.2.1, (b t ht).2.2.2.2.1, (b t ht).2.2.2.2.2.1, fun q => by rw [xl_pl, if_neg (fun z => hk z.1.symm)]; exact (b t ht).2.2.2.2.2.2 q⟩, c⟩
theorem jle_nat {x y : Nat} (hx : x < 2 ^ 63) (hy : y < 2 ^ 63) : (jL (BitVec.ofNat 64 x) < jL (BitVec.ofNat 64 y)) = (x < y) := by
  apply propext
  rw [Int64.lt_iff_toInt_lt]
  show (BitVec.ofNat 64 x).toInt < (BitVec.ofNat 64 y).toInt ↔ _
  rw [BitVec.toInt_eq_toNat_cond, BitVec.toInt_eq_toNat_cond, BitVec.toNat_ofNat, BitVec.toNat_ofNat, Nat.mod_eq_of_lt (by omega), Nat.mod_eq_of_lt (by omega), if_pos (by omega), if_pos (by omega)]
  omega
theorem r_pay (R : CR B σ eff f fs) (W : WW B eff f fs ft)
    (k : ∀ σ' (r : Bool), rOnly σ σ' → (r = true → can B eff ∧ CR B σ' (eff - bma B * 2 ^ bsz B) f fs) → (r = false → ¬ can B eff ∧ CR B σ' eff f fs) → Q (.inl (some (.int (bI r)))) σ') : wp_VectorSolverModel_pay Q σ := by
  have w := W.1
  have hm := wf_ma w
  have hb := bsz_le w
  have he := W.2.2.2.1
  have bt : ∀ r : Bool, (bI r = nI 0 ∨ bI r = nI 1) := fun r => by cases r <;> decide
  obtain ⟨RR0, c1, c2, c3⟩ := R
  unfold wp_VectorSolverModel_pay
  rw [RR0.1.2.2.2.2.2.2, RR0.1.1]
  simp (disch := omega) only [i32_lit, l64_lit, lc_eq, lc_ge, lc_le, lc_gt, lc_lt, jL_inj, jL_add, jL_sub, jL_mul, jL_neg, jL_and, jL_or, jL_xor, jL_mone, BitVec.xor_allOnes, nI_clamp, nI_ltI, nI_leI, nI_eq, nI_1, nI_add, nI_sub, nI_addm, nI_mul, vp_in_n, xi_pi, xi_pl, xl_pi, xl_pl, xb_pi, xb_pl, xqi_i, xql_l, xqv_v, xqi_e, xql_e, xqv_e, forall_eq, true_and, and_true]
  refine ⟨fun z => ?_, fun z => k σ false (rOnly.refl _) (fun q => (by cases q)) (fun _ => ⟨fun q => z q.1, RR0, c1, c2, c3⟩)⟩
  have el := eff_le w z
  have p16 : 2 ^ bsz B ≤ 65536 := Nat.pow_le_pow_right (n := 2) (by decide) z
  have e1 : jlshl (jL 1#64) (nI (bsz B)) * (nI (bma B)).toInt64 = jL (BitVec.ofNat 64 (bma B * 2 ^ bsz B)) := by
    rw [jL_shl _ (by omega), bv_pow, jL_i2l (by omega), jL_mul]
    congr 1
    apply BitVec.eq_of_toNat_eq
    rw [BitVec.toNat_mul, BitVec.toNat_ofNat, BitVec.toNat_ofNat, BitVec.toNat_ofNat, Nat.mod_eq_of_lt (a := bma B) (by omega), Nat.mod_eq_of_lt (a := 2 ^ bsz B) (by omega), Nat.mul_comm]
  have e2 : xl σ 50 46 + jL (BitVec.ofNat 64 (bma B * 2 ^ bsz B)) = jL (BitVec.ofNat 64 (200000000 - eff + bma B * 2 ^ bsz B)) := by
    rw [c1, jL_add]
    congr 1
    apply BitVec.eq_of_toNat_eq
    rw [BitVec.toNat_add, BitVec.toNat_ofNat, BitVec.toNat_ofNat, BitVec.toNat_ofNat]
    omega
  have e3 : xl σ 50 46 + 0 = xl σ 50 46 := by
    rw [c1, jL_0, jL_add]
    congr 1
    exact BitVec.add_zero _
  have rp : ∀ v, rOnly σ (xpl σ 50 46 v) := fun v => ⟨fun _ _ _ => rfl, fun a b q => by rw [xl_pl, if_neg (by omega)], fun _ => rfl, ⟨rfl, rfl, rfl⟩, rfl, fun a b q => by rw [xl_pl, if_neg (by omega)]⟩
  have crp : ∀ v eff', v = jL (BitVec.ofNat 64 (200000000 - eff')) → CR B (xpl σ 50 46 v) eff' f fs := fun v eff' hv => ⟨RR0.pl 50 46 v (by decide), by rw [xl_pl, if_pos ⟨rfl, rfl⟩]; exact hv, c2, fun y hy => ⟨by rw [xl_pl, if_neg (by decide)]; exact (c3 y hy).1, (c3 y hy).2⟩⟩
  rw [e1, e2]
  have l2 : (jL (BitVec.ofNat 64 200000000) < jL (BitVec.ofNat 64 (200000000 - eff + bma B * 2 ^ bsz B))) = (200000000 < 200000000 - eff + bma B * 2 ^ bsz B) := jle_nat (by decide) (by omega)
  have lit : jL 200000000#64 = jL (BitVec.ofNat 64 200000000) := rfl
  rw [lit, l2]
  refine ⟨fun q => ?_, fun q => ?_⟩
  · unfold w_VectorSolverModel_pay_42
    refine ⟨fun _ s2 e => ?_, fun n => absurd rfl n⟩
    rw [e3] at e
    rw [e]
    exact ⟨Or.inl rfl, k _ false (rp _) (fun q => (by cases q)) (fun _ => ⟨fun n => by have := n.2; omega, crp _ eff c1⟩)⟩
  · unfold w_VectorSolverModel_pay_42
    refine ⟨fun n => absurd n (by decide), fun _ s2 e => ?_⟩
    rw [e2] at e
    rw [e]
    refine ⟨Or.inr rfl, k _ true (rp _) (fun _ => ⟨⟨z, by omega⟩, crp _ _ ?_⟩) (fun q => (by cases q))⟩
    congr 2
    omega
/-- the reference's search, with what was paid -/
theorem r_find {eff' : Nat} (R : CR B σ eff' f fs) (w : wfB B) (hS : bsz B ≤ 16) (hs : ∀ t, sup = some t → t < bma B ∧ bso B t = 0) (ha : a ≤ 2 ^ bsz B)
    (k : ∀ σ' r, rOnly σ σ' → CR B σ' eff' r (bsz B) → xi σ' 50 1 = xi σ 50 1 → leastOK B sup a r → Q (.inl (some (.int (bI r.isSome)))) σ') :
    wp_VectorSolverModel_search (xqi (fun r5 u4 => ((r5 = 0 ∨ r5 = 1) ∧ (∀ s6 : xS, s6 = xpi u4 50 50 r5 → (((xi s6 50 50) = 0 ∨ (xi s6 50 50) = 1) ∧ Q (.inl (some (.int (xi s6 50 50)))) s6)))) (fun n u => Q (.inr n) u)) σ (jL (BitVec.ofNat 64 a)) (supI sup) := by
  have bt : ∀ r : Bool, (bI r = 0 ∨ bI r = 1) := fun r => by cases r <;> decide
  obtain ⟨RR0, c1, c2, c3⟩ := R
  refine r_search RR0 w hS hs ha (fun σ1 r o1 l1 s1 n1 => ?_)
  rw [xqi_i]
  refine ⟨bt _, fun s6 e6 => ?_⟩
  have x50 : xi s6 50 50 = bI r.isSome := by rw [e6, xi_pi, if_pos ⟨rfl, rfl⟩]
  rw [x50]
  have oS : rOnly σ1 s6 := by
    rw [e6]
    exact ⟨fun a b q => by rw [xi_pi, if_neg (by omega)], fun _ _ _ => rfl, fun b => by rw [xi_pi, if_neg (by omega)], ⟨by rw [xi_pi, if_neg (by decide)], by rw [xi_pi, if_neg (by decide)], by rw [xi_pi, if_neg (by decide)]⟩, rfl, fun _ _ _ => rfl⟩
  have fi : ∀ k j, k ≠ 82 → k ≠ 83 → ¬ (k = 50 ∧ (j = 50 ∨ j = 52)) → xi s6 k j = xi σ k j := fun k j q1 q2 q3 => by
    rw [e6, xi_pi, if_neg (fun z => q3 ⟨z.1, Or.inl z.2⟩)]
    exact o1.1 k j q1 q2 (fun z => q3 ⟨z.1, Or.inr z.2⟩)
  have fl : ∀ k j, k ≠ 81 → ¬ (k = 50 ∧ j = 51) → xl s6 k j = xl σ k j := fun k j q1 q2 => by rw [e6]; exact o1.2.1 k j q1 q2
  have R6 : RR B s6 := by
    obtain ⟨⟨a1, a2, a3, a4, a5, a6, a7⟩, b, c, d, e, f, g⟩ := RR0
    refine ⟨⟨(fi 50 11 (by decide) (by decide) (by decide)).trans a1, (fi 50 21 (by decide) (by decide) (by decide)).trans a2, (fi 50 23 (by decide) (by decide) (by decide)).trans a3, (fi 50 27 (by decide) (by decide) (by decide)).trans a4, (fi 50 42 (by decide) (by decide) (by decide)).trans a5, (fi 50 44 (by decide) (by decide) (by decide)).trans a6, (fi 50 45 (by decide) (by decide) (by decide)).trans a7⟩, fun t ht => ?_, fun i q => (fi 65 i (by decide) (by decide) (by omega)).trans (c i q), fun n q => ?_, fun i q => (fi 68 i (by decide) (by decide) (by omega)).trans (e i q), fun i q => (fi 69 i (by decide) (by decide) (by omega)).trans (f i q), fun i q => ?_⟩
    · rw [fi 56 t (by decide) (by decide) (by omega), fi 57 t (by decide) (by decide) (by omega), fi 58 t (by decide) (by decide) (by omega), fi 59 t (by decide) (by decide) (by omega), fi 60 t (by decide) (by decide) (by omega), fi 62 t (by decide) (by decide) (by omega), fl 64 t (by decide) (by omega)]; exact b t ht
    · rw [fi 66 n (by decide) (by decide) (by omega), fi 67 n (by decide) (by decide) (by omega)]; exact d n q
    · rw [fi 80 i (by decide) (by decide) (by omega), fi 63 _ (by decide) (by decide) (by omega)]; exact g i q
  refine ⟨bt _, k s6 r (o1.toR.trans oS) ⟨R6, (fl 50 46 (by decide) (by decide)).trans c1, x50, fun y hy => ?_⟩ (fi 50 1 (by decide) (by decide) (by decide)) l1⟩
  have := s1 y hy
  refine ⟨?_, ?_⟩
  · rw [e6]; exact this.1
  · rw [e6, xi_pi, if_neg (by decide)]; exact this.2
theorem r_check (R : CR B σ eff f fs) (W : WW B eff f fs ft)
    (k1 : can B eff → ∀ σ' r, rOnly σ σ' → CR B σ' (eff - bma B * 2 ^ bsz B) r (bsz B) → xi σ' 50 1 = nI 0 → leastOK B none 0 r → Q (.inl (some (.int (bI r.isSome)))) σ')
    (k2 : ¬ can B eff → ∀ σ' x, rOnly σ σ' → CR B σ' eff f fs → xi σ' 50 1 = nI 1 → Q (.inl (some (.int x))) σ') : wp_VectorSolverModel_check Q σ := by
  unfold wp_VectorSolverModel_check
  refine r_pay R W (fun σ1 r o1 y1 n1 => ?_)
  rw [xqi_i]
  cases r with
  | false =>
    obtain ⟨nc, R1⟩ := n1 rfl
    refine ⟨fun _ => ?_, fun n => absurd rfl n⟩
    intro s3 e3
    have x1 : xi s3 50 1 = nI 1 := by rw [e3, xi_pi, if_pos ⟨rfl, rfl⟩]; rfl
    rw [x1]
    refine ⟨fun q => absurd q (by decide), fun _ => k2 nc s3 _ (o1.trans (by rw [e3]; exact rOnly.code _ _)) (by rw [e3]; exact R1.put _) x1⟩
  | true =>
    obtain ⟨c, R1⟩ := y1 rfl
    refine ⟨fun n => absurd n (by decide), fun _ => ?_⟩
    intro s3 e3
    have x1 : xi s3 50 1 = nI 0 := by rw [e3, xi_pi, if_pos ⟨rfl, rfl⟩]; rfl
    rw [x1]
    refine ⟨fun _ => ?_, fun n => absurd (Int32.le_refl _) n⟩
    have R3 : CR B s3 (eff - bma B * 2 ^ bsz B) f fs := by rw [e3]; exact R1.put _
    refine r_find (sup := none) (a := 0) R3 W.1 c.1 (fun t q => by cases q) (Nat.zero_le _) (fun σ' r o R' z l => k1 c σ' r (o1.trans ((by rw [e3]; exact rOnly.code _ _ : rOnly σ1 s3).trans o)) R' (z.trans x1) l)
theorem r_more (R : CR B σ eff f fs) (W : WW B eff f fs ft)
    (k1 : can B eff → ∀ σ' r, rOnly σ σ' → CR B σ' (eff - bma B * 2 ^ bsz B) r (bsz B) → xi σ' 50 1 = nI 0 → leastOK B none (mst0 B f fs) r → Q (.inl (some (.int (bI r.isSome)))) σ')
    (k2 : ¬ can B eff → ∀ σ' x, rOnly σ σ' → CR B σ' eff f fs → xi σ' 50 1 = nI 1 → Q (.inl (some (.int x))) σ') : wp_VectorSolverModel_more Q σ := by
  unfold wp_VectorSolverModel_more
  refine r_pay R W (fun σ1 r o1 y1 n1 => ?_)
  rw [xqi_i]
  cases r with
  | false =>
    obtain ⟨nc, R1⟩ := n1 rfl
    refine ⟨fun _ => ?_, fun n => absurd rfl n⟩
    intro s3 e3
    have x1 : xi s3 50 1 = nI 1 := by rw [e3, xi_pi, if_pos ⟨rfl, rfl⟩]; rfl
    rw [x1]
    refine ⟨fun q => absurd q (by decide), fun _ => k2 nc s3 _ (o1.trans (by rw [e3]; exact rOnly.code _ _)) (by rw [e3]; exact R1.put _) x1⟩
  | true =>
    obtain ⟨c, R1⟩ := y1 rfl
    refine ⟨fun n => absurd n (by decide), fun _ => ?_⟩
    intro s3 e3
    have x1 : xi s3 50 1 = nI 0 := by rw [e3, xi_pi, if_pos ⟨rfl, rfl⟩]; rfl
    rw [x1]
    refine ⟨fun _ => ?_, fun n => absurd (Int32.le_refl _) n⟩
    have R3 : CR B s3 (eff - bma B * 2 ^ bsz B) f fs := by rw [e3]; exact R1.put _
    have go : ∀ a, a = mst0 B f fs → a ≤ 2 ^ bsz B → w_VectorSolverModel_more_54 Q (jL (BitVec.ofNat 64 a)) s3 := by
      intro a ea la
      unfold w_VectorSolverModel_more_54
      exact r_find (sup := none) R3 W.1 c.1 (fun t q => by cases q) la (fun σ' r o R' z l => k1 c σ' r (o1.trans ((by rw [e3]; exact rOnly.code _ _ : rOnly σ1 s3).trans o)) R' (z.trans x1) (by rw [← ea]; exact l))
    rw [R3.2.2.1]
    cases hf : f with
    | none => exact ⟨fun _ => go 0 (by rw [hf]; rfl) (Nat.zero_le _), fun n => absurd rfl n⟩
    | some x =>
      have ft := W.fit hf
      have gl := ft.2 c.1
      have p17 : 2 ^ bsz B ≤ 65536 := Nat.pow_le_pow_right (n := 2) (by decide) c.1
      obtain ⟨d1, d2⟩ := R3.2.2.2 x hf
      have c16 := c.1
      refine ⟨fun n => absurd n (show ¬ bI true = 0 by decide), fun _ => ?_⟩
      rw [d1, d2, R3.1.1.2.2.2.2.2.2, nI_sub ft.1, jL_shl _ (by omega), jL_1, jL_add]
      have e : (BitVec.ofNat 64 x <<< (bsz B - fs)) = BitVec.ofNat 64 (grw B fs x) := by
        apply BitVec.eq_of_toNat_eq
        have g := W.2.2.2.2 x hf
        have p16 : 2 ^ fs ≤ 65536 := Nat.pow_le_pow_right (n := 2) (by decide) g.2.1
        rw [BitVec.toNat_shiftLeft, BitVec.toNat_ofNat, BitVec.toNat_ofNat, Nat.shiftLeft_eq, Nat.mod_eq_of_lt (a := x) (by omega)]
        rfl
      rw [e, bv_succ]
      exact go _ (by rw [hf]; rfl) (by omega)
end RCALL
