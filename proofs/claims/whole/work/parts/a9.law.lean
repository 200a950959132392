/-! THE LAW: every call is answered alike -/
def lc_0 (L : Nat) (xs : Nat → Int32) (Q : xO → xS → Prop) (K : Int32 → xS → Prop) (a4 : Int32) (σ : xS) : Prop :=
  (vp_in (a4 + 1) L ∧ (vp_in (a4 + 2) L ∧ (vp_in (a4 + 3) L ∧ (vp_in (a4 + 4) L ∧ (vp_in (a4 + 5) L ∧ wp_VectorSolverLaw_feed_0_84 (xqi (fun r2 u1 => (vp_in (a4 + 1) L ∧ (vp_in (a4 + 2) L ∧ (vp_in (a4 + 3) L ∧ (vp_in (a4 + 4) L ∧ (vp_in (a4 + 5) L ∧ wp_VectorSolverModel_feed (xqi (fun r4 u3 => wp_VectorSolverModel_thrown (xqi (fun r6 u5 => ((r6 = r2 → ((¬ r2 = 0 → (∀ x7 : Int32, x7 = a4 + 6 → K x7 u5)) ∧ (r2 = 0 → (vp_in 0 1 ∧ (((lg_cmp (xl u5 84 (0 : Int32).toNatClampNeg) r4.toInt64) = 0 → (∀ x8 : Int32, x8 = a4 + 6 → K x8 u5)) ∧ (¬ (lg_cmp (xl u5 84 (0 : Int32).toNatClampNeg) r4.toInt64) = 0 → Q (.inl (some (.int 0))) u5)))))) ∧ (¬ r6 = r2 → Q (.inl (some (.int 0))) u5))) (fun n u => Q (.inr n) u)) u3 ) (fun n u => Q (.inr n) u)) u1 (xs (a4 + 1).toNatClampNeg) (xs (a4 + 2).toNatClampNeg) (xs (a4 + 3).toNatClampNeg) (xs (a4 + 4).toNatClampNeg) (xs (a4 + 5).toNatClampNeg))))))) (fun n u => Q (.inr n) u)) σ (xs (a4 + 1).toNatClampNeg) (xs (a4 + 2).toNatClampNeg) (xs (a4 + 3).toNatClampNeg) (xs (a4 + 4).toNatClampNeg) (xs (a4 + 5).toNatClampNeg))))))
def lc_1 (L : Nat) (xs : Nat → Int32) (Q : xO → xS → Prop) (K : Int32 → xS → Prop) (a4 : Int32) (σ : xS) : Prop :=
  (vp_in (a4 + 1) L ∧ wp_VectorSolverLaw_trim_0_84 (xqi (fun r10 u9 => (vp_in (a4 + 1) L ∧ wp_VectorSolverModel_trim (xqi (fun r12 u11 => wp_VectorSolverModel_thrown (xqi (fun r14 u13 => ((r14 = r10 → ((¬ r10 = 0 → (∀ x15 : Int32, x15 = a4 + 6 → K x15 u13)) ∧ (r10 = 0 → (vp_in 0 1 ∧ (((lg_cmp (xl u13 84 (0 : Int32).toNatClampNeg) r12.toInt64) = 0 → (∀ x16 : Int32, x16 = a4 + 6 → K x16 u13)) ∧ (¬ (lg_cmp (xl u13 84 (0 : Int32).toNatClampNeg) r12.toInt64) = 0 → Q (.inl (some (.int 0))) u13)))))) ∧ (¬ r14 = r10 → Q (.inl (some (.int 0))) u13))) (fun n u => Q (.inr n) u)) u11 ) (fun n u => Q (.inr n) u)) u9 (xs (a4 + 1).toNatClampNeg))) (fun n u => Q (.inr n) u)) σ (xs (a4 + 1).toNatClampNeg))
def lc_2 (L : Nat) (xs : Nat → Int32) (Q : xO → xS → Prop) (K : Int32 → xS → Prop) (a4 : Int32) (σ : xS) : Prop :=
  wp_VectorSolver_read (xqi (fun r18 u17 => wp_VectorSolverModel_read (xqi (fun r20 u19 => ((r18 = r20 → (∀ x21 : Int32, x21 = a4 + 6 → K x21 u19)) ∧ (¬ r18 = r20 → Q (.inl (some (.int 0))) u19))) (fun n u => Q (.inr n) u)) u17 ) (fun n u => Q (.inr n) u)) σ 
def lc_3 (L : Nat) (xs : Nat → Int32) (Q : xO → xS → Prop) (K : Int32 → xS → Prop) (a4 : Int32) (σ : xS) : Prop :=
  (vp_in (a4 + 1) L ∧ wp_VectorSolverLaw_fault_0_84 (xqi (fun r23 u22 => (vp_in (a4 + 1) L ∧ wp_VectorSolverModel_fault (xqi (fun r25 u24 => wp_VectorSolverModel_thrown (xqi (fun r27 u26 => ((r27 = r23 → ((¬ r23 = 0 → (∀ x28 : Int32, x28 = a4 + 6 → K x28 u26)) ∧ (r23 = 0 → (vp_in 0 1 ∧ (((lg_cmp (xl u26 84 (0 : Int32).toNatClampNeg) r25.toInt64) = 0 → (∀ x29 : Int32, x29 = a4 + 6 → K x29 u26)) ∧ (¬ (lg_cmp (xl u26 84 (0 : Int32).toNatClampNeg) r25.toInt64) = 0 → Q (.inl (some (.int 0))) u26)))))) ∧ (¬ r27 = r23 → Q (.inl (some (.int 0))) u26))) (fun n u => Q (.inr n) u)) u24 ) (fun n u => Q (.inr n) u)) u22 (xs (a4 + 1).toNatClampNeg))) (fun n u => Q (.inr n) u)) σ (xs (a4 + 1).toNatClampNeg))
def lc_4 (L : Nat) (xs : Nat → Int32) (Q : xO → xS → Prop) (K : Int32 → xS → Prop) (a4 : Int32) (σ : xS) : Prop :=
  wp_VectorSolverLaw_check_0_84 (xqi (fun r31 u30 => wp_VectorSolverModel_check (xqi (fun r33 u32 => wp_VectorSolverModel_thrown (xqi (fun r35 u34 => ((r35 = r31 → ((¬ r31 = 0 → (∀ x36 : Int32, x36 = a4 + 6 → K x36 u34)) ∧ (r31 = 0 → (vp_in 0 1 ∧ ((r33 = 0 → w_VectorSolverLaw_law_379 L xs Q K a4 (xl u34 84 (0 : Int32).toNatClampNeg) 0 u34) ∧ (¬ r33 = 0 → w_VectorSolverLaw_law_379 L xs Q K a4 (xl u34 84 (0 : Int32).toNatClampNeg) 1 u34)))))) ∧ (¬ r35 = r31 → Q (.inl (some (.int 0))) u34))) (fun n u => Q (.inr n) u)) u32 ) (fun n u => Q (.inr n) u)) u30 ) (fun n u => Q (.inr n) u)) σ 
def lc_5 (L : Nat) (xs : Nat → Int32) (Q : xO → xS → Prop) (K : Int32 → xS → Prop) (a4 : Int32) (σ : xS) : Prop :=
  wp_VectorSolverLaw_more_0_84 (xqi (fun r39 u38 => wp_VectorSolverModel_more (xqi (fun r41 u40 => wp_VectorSolverModel_thrown (xqi (fun r43 u42 => ((r43 = r39 → ((¬ r39 = 0 → (∀ x44 : Int32, x44 = a4 + 6 → K x44 u42)) ∧ (r39 = 0 → (vp_in 0 1 ∧ ((r41 = 0 → w_VectorSolverLaw_law_430 L xs Q K a4 (xl u42 84 (0 : Int32).toNatClampNeg) 0 u42) ∧ (¬ r41 = 0 → w_VectorSolverLaw_law_430 L xs Q K a4 (xl u42 84 (0 : Int32).toNatClampNeg) 1 u42)))))) ∧ (¬ r43 = r39 → Q (.inl (some (.int 0))) u42))) (fun n u => Q (.inr n) u)) u40 ) (fun n u => Q (.inr n) u)) u38 ) (fun n u => Q (.inr n) u)) σ 
def lc_6 (L : Nat) (xs : Nat → Int32) (Q : xO → xS → Prop) (K : Int32 → xS → Prop) (a4 : Int32) (σ : xS) : Prop :=
  (vp_in (a4 + 1) L ∧ wp_VectorSolverLaw_suppose_0_84 (xqi (fun r47 u46 => (vp_in (a4 + 1) L ∧ wp_VectorSolverModel_suppose (xqi (fun r49 u48 => wp_VectorSolverModel_thrown (xqi (fun r51 u50 => ((r51 = r47 → ((¬ r47 = 0 → (∀ x52 : Int32, x52 = a4 + 6 → K x52 u50)) ∧ (r47 = 0 → (vp_in 0 1 ∧ ((r49 = 0 → w_VectorSolverLaw_law_493 L xs Q K a4 (xl u50 84 (0 : Int32).toNatClampNeg) 0 u50) ∧ (¬ r49 = 0 → w_VectorSolverLaw_law_493 L xs Q K a4 (xl u50 84 (0 : Int32).toNatClampNeg) 1 u50)))))) ∧ (¬ r51 = r47 → Q (.inl (some (.int 0))) u50))) (fun n u => Q (.inr n) u)) u48 ) (fun n u => Q (.inr n) u)) u46 (xs (a4 + 1).toNatClampNeg))) (fun n u => Q (.inr n) u)) σ (xs (a4 + 1).toNatClampNeg))
def lc_7 (L : Nat) (xs : Nat → Int32) (Q : xO → xS → Prop) (K : Int32 → xS → Prop) (a4 : Int32) (σ : xS) : Prop :=
  (vp_in (a4 + 1) L ∧ (vp_in (a4 + 2) L ∧ wp_VectorSolverLaw_value_0_84 (xqi (fun r55 u54 => (vp_in (a4 + 1) L ∧ (vp_in (a4 + 2) L ∧ wp_VectorSolverModel_value (xql (fun r57 u56 => wp_VectorSolverModel_thrown (xqi (fun r59 u58 => ((r59 = r55 → ((¬ r55 = 0 → (∀ x60 : Int32, x60 = a4 + 6 → K x60 u58)) ∧ (r55 = 0 → (vp_in 0 1 ∧ (((lg_cmp (xl u58 84 (0 : Int32).toNatClampNeg) r57) = 0 → (∀ x61 : Int32, x61 = a4 + 6 → K x61 u58)) ∧ (¬ (lg_cmp (xl u58 84 (0 : Int32).toNatClampNeg) r57) = 0 → Q (.inl (some (.int 0))) u58)))))) ∧ (¬ r59 = r55 → Q (.inl (some (.int 0))) u58))) (fun n u => Q (.inr n) u)) u56 ) (fun n u => Q (.inr n) u)) u54 (xs (a4 + 1).toNatClampNeg) (xs (a4 + 2).toNatClampNeg)))) (fun n u => Q (.inr n) u)) σ (xs (a4 + 1).toNatClampNeg) (xs (a4 + 2).toNatClampNeg)))
def lc_8 (L : Nat) (xs : Nat → Int32) (Q : xO → xS → Prop) (K : Int32 → xS → Prop) (a4 : Int32) (σ : xS) : Prop :=
  (vp_in (a4 + 1) L ∧ wp_VectorSolverLaw_named_0_84 (xqi (fun r63 u62 => (vp_in (a4 + 1) L ∧ wp_VectorSolverModel_named (xql (fun r65 u64 => wp_VectorSolverModel_thrown (xqi (fun r67 u66 => ((r67 = r63 → ((¬ r63 = 0 → (∀ x68 : Int32, x68 = a4 + 6 → K x68 u66)) ∧ (r63 = 0 → (vp_in 0 1 ∧ (((lg_cmp (xl u66 84 (0 : Int32).toNatClampNeg) r65) = 0 → (∀ x69 : Int32, x69 = a4 + 6 → K x69 u66)) ∧ (¬ (lg_cmp (xl u66 84 (0 : Int32).toNatClampNeg) r65) = 0 → Q (.inl (some (.int 0))) u66)))))) ∧ (¬ r67 = r63 → Q (.inl (some (.int 0))) u66))) (fun n u => Q (.inr n) u)) u64 ) (fun n u => Q (.inr n) u)) u62 (xs (a4 + 1).toNatClampNeg))) (fun n u => Q (.inr n) u)) σ (xs (a4 + 1).toNatClampNeg))
def lc_9 (L : Nat) (xs : Nat → Int32) (Q : xO → xS → Prop) (K : Int32 → xS → Prop) (a4 : Int32) (σ : xS) : Prop :=
  wp_VectorSolver_missed (xqi (fun r71 u70 => wp_VectorSolverModel_missed (xqi (fun r73 u72 => ((r71 = r73 → (∀ x74 : Int32, x74 = a4 + 6 → K x74 u72)) ∧ (¬ r71 = r73 → Q (.inl (some (.int 0))) u72))) (fun n u => Q (.inr n) u)) u70 ) (fun n u => Q (.inr n) u)) σ 
def lc_10 (L : Nat) (xs : Nat → Int32) (Q : xO → xS → Prop) (K : Int32 → xS → Prop) (a4 : Int32) (σ : xS) : Prop :=
  wp_VectorSolver_refused (xqi (fun r76 u75 => wp_VectorSolverModel_refused (xqi (fun r78 u77 => ((r76 = r78 → (∀ x79 : Int32, x79 = a4 + 6 → K x79 u77)) ∧ (¬ r76 = r78 → Q (.inl (some (.int 0))) u77))) (fun n u => Q (.inr n) u)) u75 ) (fun n u => Q (.inr n) u)) σ 
def lc_11 (L : Nat) (xs : Nat → Int32) (Q : xO → xS → Prop) (K : Int32 → xS → Prop) (a4 : Int32) (σ : xS) : Prop :=
  (vp_in (a4 + 1) L ∧ (vp_in (a4 + 2) L ∧ wp_VectorSolverLaw_thing_0_84 (xqi (fun r81 u80 => (vp_in (a4 + 1) L ∧ (vp_in (a4 + 2) L ∧ wp_VectorSolverModel_thing (xqi (fun r83 u82 => wp_VectorSolverModel_thrown (xqi (fun r85 u84 => ((r85 = r81 → ((¬ r81 = 0 → (∀ x86 : Int32, x86 = a4 + 6 → K x86 u84)) ∧ (r81 = 0 → (vp_in 0 1 ∧ (((lg_cmp (xl u84 84 (0 : Int32).toNatClampNeg) r83.toInt64) = 0 → (∀ x87 : Int32, x87 = a4 + 6 → K x87 u84)) ∧ (¬ (lg_cmp (xl u84 84 (0 : Int32).toNatClampNeg) r83.toInt64) = 0 → Q (.inl (some (.int 0))) u84)))))) ∧ (¬ r85 = r81 → Q (.inl (some (.int 0))) u84))) (fun n u => Q (.inr n) u)) u82 ) (fun n u => Q (.inr n) u)) u80 (xs (a4 + 1).toNatClampNeg) (xs (a4 + 2).toNatClampNeg)))) (fun n u => Q (.inr n) u)) σ (xs (a4 + 1).toNatClampNeg) (xs (a4 + 2).toNatClampNeg)))
def lc_12 (L : Nat) (xs : Nat → Int32) (Q : xO → xS → Prop) (K : Int32 → xS → Prop) (a4 : Int32) (σ : xS) : Prop :=
  (vp_in (a4 + 1) L ∧ wp_VectorSolverLaw_count_0_84 (xqi (fun r89 u88 => (vp_in (a4 + 1) L ∧ wp_VectorSolverModel_count (xqi (fun r91 u90 => wp_VectorSolverModel_thrown (xqi (fun r93 u92 => ((r93 = r89 → ((¬ r89 = 0 → (∀ x94 : Int32, x94 = a4 + 6 → K x94 u92)) ∧ (r89 = 0 → (vp_in 0 1 ∧ (((lg_cmp (xl u92 84 (0 : Int32).toNatClampNeg) r91.toInt64) = 0 → (∀ x95 : Int32, x95 = a4 + 6 → K x95 u92)) ∧ (¬ (lg_cmp (xl u92 84 (0 : Int32).toNatClampNeg) r91.toInt64) = 0 → Q (.inl (some (.int 0))) u92)))))) ∧ (¬ r93 = r89 → Q (.inl (some (.int 0))) u92))) (fun n u => Q (.inr n) u)) u90 ) (fun n u => Q (.inr n) u)) u88 (xs (a4 + 1).toNatClampNeg))) (fun n u => Q (.inr n) u)) σ (xs (a4 + 1).toNatClampNeg))
def IV (B : Bk) (eff : Nat) (f : Option Nat) (fs ft : Nat) (c : Nat → Nat) (len : Nat) (σ : xS) (m : Nat) : Prop := CC B σ eff f fs ft ∧ CR B σ eff f fs ∧ WW B eff f fs ft ∧ gB B ∧ TB σ c len ∧ RTB σ c len ∧ xi σ 1 2 = xi σ 50 4 ∧ xi σ 1 3 = xi σ 50 5 ∧ m ≤ xb σ
def INV (σ : xS) (m : Nat) : Prop := ∃ B eff f fs ft c len, IV B eff f fs ft c len σ m
section LAW
variable {B : Bk} {eff fs ft len m L : Nat} {f : Option Nat} {c : Nat → Nat} {σ σ' : xS} {Q : xO → xS → Prop} {K : Int32 → xS → Prop} {xs : Nat → Int32} {a4 : Int32}
theorem least_uq {sup : Option Nat} {a : Nat} {r r' : Option Nat} (h : leastOK B sup a r) (h' : leastOK B sup a r') : r = r' := by
  cases r with
  | none =>
    cases r' with
    | none => rfl
    | some y => exact absurd h'.2.2.1 (h y h'.1 h'.2.1)
  | some x =>
    cases r' with
    | none => exact absurd h.2.2.1 (h' x h.1 h.2.1)
    | some y =>
      have e : x = y := by
        apply Classical.byContradiction
        intro n
        rcases Nat.lt_or_gt_of_ne n with q | q
        · exact h'.2.2.2 x h.1 q h.2.2.1
        · exact h.2.2.2 y h'.1 q h'.2.2.1
      rw [e]
theorem CR.o (R : CR B σ eff f fs) (v : Int64) : CR B (xpl σ 84 0 v) eff f fs := by
  refine ⟨R.1.pl 84 0 v (by decide), ?_, R.2.2.1, fun x hx => ⟨?_, (R.2.2.2 x hx).2⟩⟩
  · rw [xl_pl, if_neg (by omega)]; exact R.2.1
  · rw [xl_pl, if_neg (by omega)]; exact (R.2.2.2 x hx).1
theorem IV.o (I : IV B eff f fs ft c len σ m) (v : Int64) : IV B eff f fs ft c len (xpl σ 84 0 v) m := by
  obtain ⟨C, R, W, g, T, T', e1, e2, hx⟩ := I
  exact ⟨C.keep (fun _ _ _ => rfl) (fun a b q => by rw [xl_pl, if_neg (by omega)]), R.o v, W, g, T, T', e1, e2, hx⟩
theorem IV.x (I : IV B eff f fs ft c len σ (m + 1)) : IV B eff f fs ft c len (xpb σ (xb σ - 1)) m := by
  obtain ⟨C, R, W, g, T, T', e1, e2, hx⟩ := I
  exact ⟨C.keep (fun _ _ _ => rfl) (fun _ _ _ => rfl), R.keep (fun _ _ _ => rfl) (fun _ _ _ => rfl), W, g, T, T', e1, e2, by show m ≤ xb σ - 1; omega⟩
theorem IV.l (I : IV B eff f fs ft c len σ (m + 1)) : IV B eff f fs ft c len σ m := by
  obtain ⟨C, R, W, g, T, T', e1, e2, hx⟩ := I
  exact ⟨C, R, W, g, T, T', e1, e2, by omega⟩
theorem IV.r (I : IV B eff f fs ft c len σ m) (o : rOnly σ σ') (R : CR B σ' eff f fs) : IV B eff f fs ft c len σ' m := by
  obtain ⟨C, -, W, g, ⟨t1, t2, t3, t4⟩, T', e1, e2, hx⟩ := I
  exact ⟨C.keep o.1 o.2.1, R, W, g, ⟨(o.1 1 1 (by decide)).trans t1, t2, fun i hi => ⟨(t3 i hi).1, (o.1 2 i (by decide)).trans (t3 i hi).2⟩, fun n hn => (o.1 4 n (by decide)).trans (t4 n hn)⟩, T'.keep o.2.2.2.1.1 o.2.2.1, by rw [o.1 1 2 (by decide), o.2.2.2.1.2.1]; exact e1, by rw [o.1 1 3 (by decide), o.2.2.2.1.2.2]; exact e2, by rw [o.2.2.2.2.1]; exact hx⟩
/-- the class has searched, then the reference -/
theorem IV.s {eff' fs' ft' : Nat} {r : Option Nat} {s1 : xS} (I : IV B eff f fs ft c len σ m) (o1 : ∀ a b, 50 ≤ a → xi s1 a b = xi σ a b) (o3 : ∀ a b, 1 ≤ a → a ≤ 4 → xi s1 a b = xi σ a b) (o4 : xb s1 = xb σ) (C : CC B s1 eff' r fs' ft') (o2 : rOnly s1 σ') (R : CR B σ' eff' r fs') (W : WW B eff' r fs' ft') : IV B eff' r fs' ft' c len σ' m := by
  obtain ⟨-, -, -, g, ⟨t1, t2, t3, t4⟩, T', e1, e2, hx⟩ := I
  refine ⟨C.keep o2.1 o2.2.1, R, W, g, ⟨?_, t2, fun i hi => ⟨(t3 i hi).1, ?_⟩, fun n hn => ?_⟩, T'.keep ?_ (fun b => ?_), ?_, ?_, ?_⟩
  · rw [o2.1 1 1 (by decide), o3 1 1 (by decide) (by decide)]; exact t1
  · rw [o2.1 2 i (by decide), o3 2 i (by decide) (by decide)]; exact (t3 i hi).2
  · rw [o2.1 4 n (by decide), o3 4 n (by decide) (by decide)]; exact t4 n hn
  · rw [o2.2.2.2.1.1, o1 50 3 (by decide)]
  · rw [o2.2.2.1, o1 51 b (by decide)]
  · rw [o2.1 1 2 (by decide), o3 1 2 (by decide) (by decide), o2.2.2.2.1.2.1, o1 50 4 (by decide)]; exact e1
  · rw [o2.1 1 3 (by decide), o3 1 3 (by decide) (by decide), o2.2.2.2.1.2.2, o1 50 5 (by decide)]; exact e2
  · rw [o2.2.2.2.2.1, o4]; exact hx
theorem law_tail {r6 r2 : Int32} {rl : Int64} {u5 : xS} (h6 : r6 = r2) (h : r2 = 0 → xl u5 84 0 = rl) (nx : ∀ x, x = a4 + 6 → K x u5) : ((r6 = r2 → ((¬ r2 = 0 → (∀ x7 : Int32, x7 = a4 + 6 → K x7 u5)) ∧ (r2 = 0 → (vp_in 0 1 ∧ (((lg_cmp (xl u5 84 (0 : Int32).toNatClampNeg) rl) = 0 → (∀ x8 : Int32, x8 = a4 + 6 → K x8 u5)) ∧ (¬ (lg_cmp (xl u5 84 (0 : Int32).toNatClampNeg) rl) = 0 → Q (.inl (some (.int 0))) u5)))))) ∧ (¬ r6 = r2 → Q (.inl (some (.int 0))) u5)) := by
  have c0 : (0 : Int32).toNatClampNeg = 0 := by decide
  rw [c0]
  refine ⟨fun _ => ⟨fun _ => nx, fun z => ⟨show vp_in (nI 0) 1 from vp_in_nI (by decide) (by decide), fun _ => nx, fun y => absurd ((lc_eq _ _).mpr (h z)) y⟩⟩, fun z => absurd h6 z⟩
theorem law_cmp {t0 t1 : Int64} (h : t0 = t1) (nx : ∀ x, x = a4 + 6 → K x σ) : ((lg_cmp t0 t1) = 0 → (∀ x37 : Int32, x37 = a4 + 6 → K x37 σ)) ∧ (¬ (lg_cmp t0 t1) = 0 → Q (.inl (some (.int 0))) σ) := ⟨fun _ => nx, fun y => absurd ((lc_eq _ _).mpr h) y⟩
theorem v01 : vp_in 0 1 := show vp_in (nI 0) 1 from vp_in_nI (by decide) (by decide)
theorem out0 (s : xS) (v : Int64) : xpl s 84 (0 : Int32).toNatClampNeg v = xpl s 84 0 v := by rw [show (0 : Int32).toNatClampNeg = 0 by decide]
theorem IV.xb1 (I : IV B eff f fs ft c len σ (m + 1)) : 1 ≤ xb σ := by
  have := I.2.2.2.2.2.2.2.2
  omega
-- calls that change nothing of the book
theorem law_3 (I : INV σ (m + 1)) (v1 : vp_in (a4 + 1) L) (nx : ∀ s, INV s m → ∀ x, x = a4 + 6 → K x s) : lc_3 L xs Q K a4 σ := by
  obtain ⟨B, eff, f, fs, ft, c, len, I⟩ := I
  have e1 := I.2.2.2.2.2.2.1
  have e2 := I.2.2.2.2.2.2.2.1
  unfold lc_3 wp_VectorSolverLaw_fault_0_84
  have cd : ∀ (s : xS) (x : Int32), IV B eff f fs ft c len s m → IV B eff f fs ft c len (xpi s 50 1 x) m := fun s x I => I.r (rOnly.code _ _) (I.2.1.put _)
  refine ⟨v1, v_fault e1 e2 I.xb1 (fun z => ?_) (fun z => ?_) (fun z y => ?_)⟩
  · rw [xqi_i]
    refine ⟨v01, fun s3 e3 => ?_⟩
    rw [out0] at e3
    rw [xqi_i]
    have I3 : IV B eff f fs ft c len s3 m := by rw [e3]; exact I.l.o _
    refine ⟨v1, r_fault (fk := xi σ 50 4) (fp := xi σ 50 5) (by rw [e3]; rfl) (by rw [e3]; rfl) (fun _ => ?_) (fun w => absurd (z.symm.trans w) (by decide)) (fun w => absurd z w)⟩
    rw [xqi_i]
    unfold wp_VectorSolverModel_thrown
    rw [xqi_i]
    refine law_tail (by rw [xi_pi, if_pos ⟨rfl, rfl⟩]; rfl) (fun _ => ?_) (nx _ ⟨_, _, _, _, _, _, _, cd s3 _ I3⟩)
    rw [xl_pi, e3, xl_pl, if_pos ⟨rfl, rfl⟩]
  · rw [xqi_i]
    refine ⟨v01, fun s3 e3 => ?_⟩
    rw [out0] at e3
    rw [xqi_i]
    have I3 : IV B eff f fs ft c len s3 m := by rw [e3]; exact I.l.o _
    refine ⟨v1, r_fault (fk := xi σ 50 4) (fp := xi σ 50 5) (by rw [e3]; rfl) (by rw [e3]; rfl) (fun w => absurd (w.symm.trans z) (by decide)) (fun _ => ?_) (fun _ w => absurd z w)⟩
    rw [xqi_i]
    unfold wp_VectorSolverModel_thrown
    rw [xqi_i]
    refine law_tail (by rw [xi_pi, if_pos ⟨rfl, rfl⟩]; rfl) (fun _ => ?_) (nx _ ⟨_, _, _, _, _, _, _, cd s3 _ I3⟩)
    rw [xl_pi, e3, xl_pl, if_pos ⟨rfl, rfl⟩]
  · rw [xqi_e]
    refine ⟨rfl, ?_⟩
    rw [xqi_i]
    refine ⟨v1, r_fault (fk := xi σ 50 4) (fp := xi σ 50 5) rfl rfl (fun w => absurd w z) (fun w => absurd w y) (fun _ _ q => ?_)⟩
    rw [xqi_i]
    unfold wp_VectorSolverModel_thrown
    rw [xqi_i]
    exact law_tail (by rw [xi_pi, if_pos ⟨rfl, rfl⟩]; rfl) (fun w => absurd w (by decide)) (nx _ ⟨_, _, _, _, _, _, _, cd _ _ I.x⟩)
theorem law_9 (I : INV σ (m + 1)) (nx : ∀ s, INV s m → ∀ x, x = a4 + 6 → K x s) : lc_9 L xs Q K a4 σ := by
  obtain ⟨B, eff, f, fs, ft, c, len, I⟩ := I
  unfold lc_9
  refine v_missed I.1 ?_
  rw [xqi_i]
  refine r_missed I.2.1 (fun s o R => ?_)
  rw [xqi_i]
  exact ⟨fun _ => nx s ⟨_, _, _, _, _, _, _, I.l.r o R⟩, fun z => absurd rfl z⟩
theorem law_10 (I : INV σ (m + 1)) (nx : ∀ s, INV s m → ∀ x, x = a4 + 6 → K x s) : lc_10 L xs Q K a4 σ := by
  obtain ⟨B, eff, f, fs, ft, c, len, I⟩ := I
  unfold lc_10
  refine v_refused I.1 ?_
  rw [xqi_i]
  refine r_refused I.2.1 (fun s o R => ?_)
  rw [xqi_i]
  exact ⟨fun _ => nx s ⟨_, _, _, _, _, _, _, I.l.r o R⟩, fun z => absurd rfl z⟩
theorem law_11 (I : INV σ (m + 1)) (v1 : vp_in (a4 + 1) L) (v2 : vp_in (a4 + 2) L) (nx : ∀ s, INV s m → ∀ x, x = a4 + 6 → K x s) : lc_11 L xs Q K a4 σ := by
  obtain ⟨B, eff, f, fs, ft, c, len, I⟩ := I
  have hn : bth B ≤ 500 := I.2.2.2.1.1.1.2.2.2.1
  unfold lc_11 wp_VectorSolverLaw_thing_0_84
  refine ⟨v1, v2, v_thing I.1 I.2.2.1 I.xb1 (fun i j hi hc hj => ?_) (fun hno => ?_)⟩
  · rw [xqi_i]
    refine ⟨v01, fun s3 e3 => ?_⟩
    rw [out0] at e3
    rw [xqi_i]
    have I3 : IV B eff f fs ft c len s3 m := by rw [e3]; exact I.l.o _
    refine ⟨v1, v2, r_thing I3.2.1 I3.2.2.1 (fun i' j' hi' hc' hj' s o R c0 => ?_) (fun hno => absurd hj (hno i j hi hc))⟩
    rw [xqi_i]
    unfold wp_VectorSolverModel_thrown
    rw [xqi_i]
    have ei : i' = i := th_uq hn hi' hi
    have ej : j' = j := by
      have := hc'.symm.trans hc
      rw [nI_eq (by omega) (by omega)] at this
      exact this
    refine law_tail c0 (fun _ => ?_) (nx s ⟨_, _, _, _, _, _, _, I3.r o R⟩)
    rw [o.2.2.2.2.2 84 0 (by decide), e3, xl_pl, if_pos ⟨rfl, rfl⟩, ei, ej]
  · rw [xqi_e]
    refine ⟨rfl, ?_⟩
    rw [xqi_i]
    refine ⟨v1, v2, r_thing I.x.2.1 I.x.2.2.1 (fun i j hi hc hj => absurd hj (hno i j hi hc)) (fun _ s y o R c1 => ?_)⟩
    rw [xqi_i]
    unfold wp_VectorSolverModel_thrown
    rw [xqi_i]
    exact law_tail c1 (fun w => absurd w (by decide)) (nx s ⟨_, _, _, _, _, _, _, I.x.r o R⟩)
theorem law_12 (I : INV σ (m + 1)) (v1 : vp_in (a4 + 1) L) (nx : ∀ s, INV s m → ∀ x, x = a4 + 6 → K x s) : lc_12 L xs Q K a4 σ := by
  obtain ⟨B, eff, f, fs, ft, c, len, I⟩ := I
  unfold lc_12 wp_VectorSolverLaw_count_0_84
  refine ⟨v1, v_countW I.1 I.2.2.1 I.2.2.2.2.1.1 I.xb1 (fun j hc hj => ?_) (fun hno => ?_)⟩
  · rw [xqi_i]
    refine ⟨v01, fun s3 e3 => ?_⟩
    rw [out0] at e3
    rw [xqi_i]
    have I3 : IV B eff f fs ft c len s3 m := by rw [e3]; exact I.l.o _
    refine ⟨v1, r_countW I3.2.1 I3.2.2.2.2.2.1.1 (fun j' hc' hj' s o R c0 => ?_) (fun hno => absurd hj (hno j hc))⟩
    rw [xqi_i]
    unfold wp_VectorSolverModel_thrown
    rw [xqi_i]
    have ej : j' = j := by
      have := hc'.symm.trans hc
      rw [nI_eq (by omega) (by omega)] at this
      exact this
    refine law_tail c0 (fun _ => ?_) (nx s ⟨_, _, _, _, _, _, _, I3.r o R⟩)
    rw [o.2.2.2.2.2 84 0 (by decide), e3, xl_pl, if_pos ⟨rfl, rfl⟩, ej]
  · rw [xqi_e]
    refine ⟨rfl, ?_⟩
    rw [xqi_i]
    refine ⟨v1, r_countW I.x.2.1 I.x.2.2.2.2.2.1.1 (fun j hc hj => absurd hj (hno j hc)) (fun _ s y o R c1 => ?_)⟩
    rw [xqi_i]
    unfold wp_VectorSolverModel_thrown
    rw [xqi_i]
    exact law_tail c1 (fun w => absurd w (by decide)) (nx s ⟨_, _, _, _, _, _, _, I.x.r o R⟩)
theorem law_7 (I : INV σ (m + 1)) (v1 : vp_in (a4 + 1) L) (v2 : vp_in (a4 + 2) L) (nx : ∀ s, INV s m → ∀ x, x = a4 + 6 → K x s) : lc_7 L xs Q K a4 σ := by
  obtain ⟨B, eff, f, fs, ft, c, len, I⟩ := I
  have hn : bth B ≤ 500 := I.2.2.2.1.1.1.2.2.2.1
  have cl64 : ∀ i, i < bth B → ncl (bso B (btt B i)) ≤ 64 := fun i hi => (ncl_le (wf_so I.2.2.2.1.1 (I.2.2.2.1.1.2.2.2.2.1 i hi).1)).2
  unfold lc_7 wp_VectorSolverLaw_value_0_84
  refine ⟨v1, v2, v_value I.1 I.2.2.1 I.xb1 (fun i j y hi hc hy => ?_) (fun i j hi hc hy => ?_) (fun hno => ?_)⟩
  · rw [xql_l]
    refine ⟨v01, fun s3 e3 => ?_⟩
    rw [out0] at e3
    rw [xqi_i]
    have I3 : IV B eff f fs ft c len s3 m := by rw [e3]; exact I.l.o _
    refine ⟨v1, v2, r_value I3.2.1 I3.2.2.1 (fun i' j' y' hi' hc' hy' s o R c0 => ?_) (fun _ _ _ _ hy' => absurd (hy.symm.trans hy') (by simp)) (fun hno => absurd hc (hno i hi j))⟩
    rw [xql_l]
    unfold wp_VectorSolverModel_thrown
    rw [xqi_i]
    have ei : i' = i := th_uq hn hi' hi
    have ej : j' = j := by
      have b1 := cl64 i hi.2
      have b2 := cl64 i' hi'.2
      have b3 := hc.2
      have b4 := hc'.2
      have := hc'.1.symm.trans hc.1
      rw [nI_eq (by omega) (by omega)] at this
      exact this
    have ey : y' = y := by
      have := hy'.symm.trans hy
      cases this
      rfl
    refine law_tail c0 (fun _ => ?_) (nx s ⟨_, _, _, _, _, _, _, I3.r o R⟩)
    rw [o.2.2.2.2.2 84 0 (by decide), e3, xl_pl, if_pos ⟨rfl, rfl⟩, ei, ej, ey]
  · rw [xql_e]
    refine .inr ⟨rfl, ?_⟩
    rw [xqi_i]
    refine ⟨v1, v2, r_value I.x.2.1 I.x.2.2.1 (fun _ _ _ _ _ hy' => absurd (hy.symm.trans hy') (by simp)) (fun _ _ _ _ _ s z o R c1 => ?_) (fun hno => absurd hc (hno i hi j))⟩
    rw [xql_l]
    unfold wp_VectorSolverModel_thrown
    rw [xqi_i]
    exact law_tail c1 (fun w => absurd w (by decide)) (nx s ⟨_, _, _, _, _, _, _, I.x.r o R⟩)
  · rw [xql_e]
    refine .inl ⟨rfl, ?_⟩
    rw [xqi_i]
    refine ⟨v1, v2, r_value I.x.2.1 I.x.2.2.1 (fun i j _ hi hc _ => absurd hc (hno i hi j)) (fun i j hi hc _ => absurd hc (hno i hi j)) (fun _ s z o R c1 => ?_)⟩
    rw [xql_l]
    unfold wp_VectorSolverModel_thrown
    rw [xqi_i]
    exact law_tail c1 (fun w => absurd w (by decide)) (nx s ⟨_, _, _, _, _, _, _, I.x.r o R⟩)
theorem law_8 (I : INV σ (m + 1)) (v1 : vp_in (a4 + 1) L) (nx : ∀ s, INV s m → ∀ x, x = a4 + 6 → K x s) : lc_8 L xs Q K a4 σ := by
  obtain ⟨B, eff, f, fs, ft, c, len, I⟩ := I
  have hn : bna B ≤ 500 := I.2.2.2.1.1.1.2.2.2.2.2.1
  unfold lc_8 wp_VectorSolverLaw_named_0_84
  refine ⟨v1, v_named I.1 I.2.2.1 I.xb1 (fun n y hi hc hy hS σ1 o1 => ?_) (fun n hi hc hy => ?_) (fun hno => ?_)⟩
  · rw [xql_l]
    refine ⟨v01, fun s3 e3 => ?_⟩
    rw [out0] at e3
    rw [xqi_i]
    have I1 : IV B eff f fs ft c len σ1 m := by
      obtain ⟨C, R, W, g, ⟨t1, t2, t3, t4⟩, T', e1, e2, hx⟩ := I.l
      have q : ∀ a b, xi σ1 a b = xi σ a b := fun a b => o1.1 a b (by simp)
      refine ⟨?_, R.keep (fun a b _ => q a b) (fun a b h => o1.2.1 a b (by simp; omega)), W, g, ⟨(q 1 1).trans t1, t2, fun i hi => ⟨(t3 i hi).1, (q 2 i).trans (t3 i hi).2⟩, fun n hn => (q 4 n).trans (t4 n hn)⟩, T'.keep (q 50 3) (fun b => q 51 b), by rw [q, q]; exact e1, by rw [q, q]; exact e2, by rw [o1.2.2]; exact hx⟩
      obtain ⟨⟨r, m1, m2, z⟩, c1, c2, c3, c4⟩ := C
      exact ⟨⟨r.keep (fun a b _ _ => q a b) (fun a b _ h => o1.2.1 a b (by simp; omega)), fun t ht => (q 36 t).trans (m1 t ht), fun t ht => (q 47 t).trans (m2 t ht), fun t ht => (o1.2.1 43 t (by decide)).trans (z t ht)⟩, (q 0 5).trans c1, (q 30 17).trans c2, (q 0 6).trans c3, fun x hx => ⟨(q 0 7).trans (c4 x hx).1, (q 0 8).trans (c4 x hx).2.1, (q 0 9).trans (c4 x hx).2.2⟩⟩
    have I3 : IV B eff f fs ft c len s3 m := by rw [e3]; exact I1.o _
    refine ⟨v1, r_named I3.2.1 I3.2.2.1 (fun n' y' hi' hc' hy' _ s o R c0 => ?_) (fun _ _ _ hy' => ?_) (fun hno => absurd hc (hno n hi))⟩
    · rw [xql_l]
      unfold wp_VectorSolverModel_thrown
      rw [xqi_i]
      have ei : n' = n := nm_uq hn hi' hi
      have ey : y' = y := by
        have := hy'.symm.trans hy
        cases this
        rfl
      refine law_tail c0 (fun _ => ?_) (nx s ⟨_, _, _, _, _, _, _, I3.r o R⟩)
      rw [o.2.2.2.2.2 84 0 (by decide), e3, xl_pl, if_pos ⟨rfl, rfl⟩, ei, ey]
    · rcases hy' with hy' | hy'
      · exact absurd (hy.symm.trans hy') (by simp)
      · exact absurd hS hy'
  · rw [xql_e]
    refine .inr ⟨rfl, ?_⟩
    rw [xqi_i]
    refine ⟨v1, r_named I.x.2.1 I.x.2.2.1 (fun _ _ _ _ hy' hS' => ?_) (fun _ _ _ _ s z o R c1 => ?_) (fun hno => absurd hc (hno n hi))⟩
    · rcases hy with hy | hy
      · exact absurd (hy.symm.trans hy') (by simp)
      · exact absurd hS' hy
    · rw [xql_l]
      unfold wp_VectorSolverModel_thrown
      rw [xqi_i]
      exact law_tail c1 (fun w => absurd w (by decide)) (nx s ⟨_, _, _, _, _, _, _, I.x.r o R⟩)
  · rw [xql_e]
    refine .inl ⟨rfl, ?_⟩
    rw [xqi_i]
    refine ⟨v1, r_named I.x.2.1 I.x.2.2.1 (fun n _ hi hc _ _ => absurd hc (hno n hi)) (fun n hi hc _ => absurd hc (hno n hi)) (fun _ s z o R c1 => ?_)⟩
    rw [xql_l]
    unfold wp_VectorSolverModel_thrown
    rw [xqi_i]
    exact law_tail c1 (fun w => absurd w (by decide)) (nx s ⟨_, _, _, _, _, _, _, I.x.r o R⟩)
end LAW
