/-! THE REFERENCE READS: its state and its small steps -/
def rcl (a b : Nat) : Prop := (a = 50 ∧ (b = 4 ∨ b = 5 ∨ b = 10 ∨ b = 11 ∨ b = 21 ∨ b = 23 ∨ b = 27 ∨ b = 29 ∨ b = 36 ∨ b = 38 ∨ b = 42 ∨ b = 44 ∨ b = 45 ∨ b = 53 ∨ b = 54 ∨ b = 55 ∨ b = 56 ∨ b = 57)) ∨ (56 ≤ a ∧ a ≤ 80)
def oS (σ σ' : xS) : Prop := (∀ a b, ¬ rcl a b → xi σ' a b = xi σ a b) ∧ (∀ a b, a ≠ 64 → xl σ' a b = xl σ a b) ∧ xb σ' = xb σ
theorem oS.refl (σ : xS) : oS σ σ := ⟨fun _ _ _ => rfl, fun _ _ _ => rfl, rfl⟩
theorem oS.trans {σ σ' σ2 : xS} (h : oS σ σ') (h2 : oS σ' σ2) : oS σ σ2 := ⟨fun a b q => (h2.1 a b q).trans (h.1 a b q), fun a b q => (h2.2.1 a b q).trans (h.2.1 a b q), h2.2.2.trans h.2.2⟩
theorem oS.pi (σ : xS) (a b : Nat) (x : Int32) (h : rcl a b) : oS σ (xpi σ a b x) := ⟨fun a' b' q => by rw [xi_pi, if_neg (fun z => q (by rw [z.1, z.2]; exact h))], fun _ _ _ => rfl, rfl⟩
/-- only places J of the reference itself -/
def oE (J : List Nat) (σ σ' : xS) : Prop := (∀ a b, ¬ (a = 50 ∧ b ∈ J) → xi σ' a b = xi σ a b) ∧ (∀ a b, xl σ' a b = xl σ a b) ∧ xb σ' = xb σ
theorem oE.refl (J : List Nat) (σ : xS) : oE J σ σ := ⟨fun _ _ _ => rfl, fun _ _ => rfl, rfl⟩
theorem oE.trans {J : List Nat} {σ σ' σ2 : xS} (h : oE J σ σ') (h2 : oE J σ' σ2) : oE J σ σ2 := ⟨fun a b q => (h2.1 a b q).trans (h.1 a b q), fun a b => (h2.2.1 a b).trans (h.2.1 a b), h2.2.2.trans h.2.2⟩
theorem oE.up {J J' : List Nat} {σ σ' : xS} (h : oE J σ σ') (q : ∀ x ∈ J, x ∈ J') : oE J' σ σ' := ⟨fun a b z => h.1 a b (fun y => z ⟨y.1, q b y.2⟩), h.2.1, h.2.2⟩
theorem oE.pi {J : List Nat} (σ : xS) (j : Nat) (x : Int32) (h : j ∈ J) : oE J σ (xpi σ 50 j x) := ⟨fun a b q => by rw [xi_pi, if_neg (fun z => q ⟨z.1, by rw [z.2]; exact h⟩)], fun _ _ => rfl, rfl⟩
theorem oE.at {J : List Nat} {σ σ' : xS} (h : oE J σ σ') {b : Nat} (hb : b ∉ J) : xi σ' 50 b = xi σ 50 b := h.1 50 b (fun z => hb z.2)
theorem oE.ne {J : List Nat} {σ σ' : xS} (h : oE J σ σ') {a b : Nat} (ha : a ≠ 50) : xi σ' a b = xi σ a b := h.1 a b (fun z => ha z.1)
theorem oE.S {J : List Nat} {σ σ' : xS} (h : oE J σ σ') (hJ : ∀ b ∈ J, rcl 50 b) : oS σ σ' := ⟨fun a b q => h.1 a b (fun z => q (by rw [z.1]; exact hJ b z.2)), fun a b _ => h.2.1 a b, h.2.2⟩
abbrev jR : List Nat := [4, 5, 10, 53, 54, 55, 56, 57, 29, 36, 38]
theorem jR_rcl : ∀ b ∈ jR, rcl 50 b := by
  intro b hb
  simp only [jR, List.mem_cons, List.not_mem_nil, or_false] at hb
  unfold rcl
  omega
theorem RR.e {B : Bk} {J : List Nat} {σ σ' : xS} (h : RR B σ) (o : oE J σ σ') (hJ : ∀ a ∈ [11, 21, 23, 27, 42, 44, 45], a ∉ J) : RR B σ' := by
  obtain ⟨⟨a1, a2, a3, a4, a5, a6, a7⟩, b, c, d, e, f, g⟩ := h
  have q : ∀ j, j ∈ [11, 21, 23, 27, 42, 44, 45] → xi σ' 50 j = xi σ 50 j := fun j hj => o.at (hJ j hj)
  have q2 : ∀ k j, k ≠ 50 → xi σ' k j = xi σ k j := fun k j hk => o.ne hk
  refine ⟨⟨?_, ?_, ?_, ?_, ?_, ?_, ?_⟩, fun t ht => ?_, fun i hi => ?_, fun n hn => ?_, fun i hi => ?_, fun i hi => ?_, fun i hi => ?_⟩
  · rw [q 11 (by decide)]; exact a1
  · rw [q 21 (by decide)]; exact a2
  · rw [q 23 (by decide)]; exact a3
  · rw [q 27 (by decide)]; exact a4
  · rw [q 42 (by decide)]; exact a5
  · rw [q 44 (by decide)]; exact a6
  · rw [q 45 (by decide)]; exact a7
  · rw [q2 56 t (by decide), q2 57 t (by decide), q2 58 t (by decide), q2 59 t (by decide), q2 60 t (by decide), q2 62 t (by decide), o.2.1 64 t]; exact b t ht
  · rw [q2 65 i (by decide)]; exact c i hi
  · rw [q2 66 n (by decide), q2 67 n (by decide)]; exact d n hn
  · rw [q2 68 i (by decide)]; exact e i hi
  · rw [q2 69 i (by decide)]; exact f i hi
  · rw [q2 80 i (by decide), q2 63 _ (by decide)]; exact g i hi
/-- changes that touch none of the book -/
theorem RR.k {B : Bk} {σ σ' : xS} (h : RR B σ) (q : ∀ j, j ∈ [11, 21, 23, 27, 42, 44, 45] → xi σ' 50 j = xi σ 50 j) (q2 : ∀ k j, (56 ≤ k ∧ k ≤ 69) ∨ k = 80 → xi σ' k j = xi σ k j) (hl : ∀ j, xl σ' 64 j = xl σ 64 j) : RR B σ' := by
  obtain ⟨⟨a1, a2, a3, a4, a5, a6, a7⟩, b, c, d, e, f, g⟩ := h
  refine ⟨⟨?_, ?_, ?_, ?_, ?_, ?_, ?_⟩, fun t ht => ?_, fun i hi => ?_, fun n hn => ?_, fun i hi => ?_, fun i hi => ?_, fun i hi => ?_⟩
  · rw [q 11 (by decide)]; exact a1
  · rw [q 21 (by decide)]; exact a2
  · rw [q 23 (by decide)]; exact a3
  · rw [q 27 (by decide)]; exact a4
  · rw [q 42 (by decide)]; exact a5
  · rw [q 44 (by decide)]; exact a6
  · rw [q 45 (by decide)]; exact a7
  · rw [q2 56 t (by decide), q2 57 t (by decide), q2 58 t (by decide), q2 59 t (by decide), q2 60 t (by decide), q2 62 t (by decide), hl t]; exact b t ht
  · rw [q2 65 i (by decide)]; exact c i hi
  · rw [q2 66 n (by decide), q2 67 n (by decide)]; exact d n hn
  · rw [q2 68 i (by decide)]; exact e i hi
  · rw [q2 69 i (by decide)]; exact f i hi
  · rw [q2 80 i (by decide), q2 63 _ (by decide)]; exact g i hi
/-- a fault stands -/
def RX (σ : xS) : Prop := ¬ xi σ 50 4 = 0 ∧ (∃ i, i ≤ 65536 ∧ xi σ 50 10 = nI i) ∧ ¬ xi σ 50 4 ≤ 0
/-- a fault is told -/
def RFl (B : Bk) (e : Nat × Nat) (σ σ' : xS) : Prop := oS σ σ' ∧ (∃ B', bex B B' ∧ RR B' σ') ∧ xi σ' 50 4 = nI e.1 ∧ xi σ' 50 5 = nI e.2 ∧ RX σ'
theorem RFl.pre {B B1 : Bk} {e : Nat × Nat} {σ σ1 σ' : xS} (h : oS σ σ1) (x : bex B B1) (f : RFl B1 e σ1 σ') : RFl B e σ σ' := by
  obtain ⟨f1, ⟨B', f2, f3⟩, f4⟩ := f
  exact ⟨h.trans f1, ⟨B', x.trans f2, f3⟩, f4⟩
theorem RFl.e {B : Bk} {e : Nat × Nat} {σ σ1 σ' : xS} {J : List Nat} (h : oE J σ σ1) (hJ : ∀ b ∈ J, b ∈ jR) (f : RFl B e σ1 σ') : RFl B e σ σ' := RFl.pre (h.S (fun b q => jR_rcl b (hJ b q))) (bex.refl _) f
/-- what a fault leaves behind may change -/
theorem RFl.post {B : Bk} {e : Nat × Nat} {σ σ1 σ' : xS} (f : RFl B e σ σ1) (h : oS σ1 σ') (h4 : xi σ' 50 4 = xi σ1 50 4) (h5 : xi σ' 50 5 = xi σ1 50 5) (h10 : xi σ' 50 10 = xi σ1 50 10) (q : ∀ j, j ∈ [11, 21, 23, 27, 42, 44, 45] → xi σ' 50 j = xi σ1 50 j) (q2 : ∀ k j, (56 ≤ k ∧ k ≤ 69) ∨ k = 80 → xi σ' k j = xi σ1 k j) (hl : ∀ j, xl σ' 64 j = xl σ1 64 j) : RFl B e σ σ' := by
  obtain ⟨f1, ⟨B', f2, f3⟩, f4, f5, f6, ⟨i, f7, f8⟩, f9⟩ := f
  exact ⟨f1.trans h, ⟨B', f2, f3.k q q2 hl⟩, h4.trans f4, h5.trans f5, by rw [h4]; exact f6, ⟨i, f7, h10.trans f8⟩, by rw [h4]; exact f9⟩
section RREAD
variable (c : Nat → Nat) (l N : Nat)
/-- before token j -/
def RS0 (B : Bk) (j : Nat) (σ : xS) : Prop := RTB σ c l ∧ PR σ c l N ∧ RR B σ ∧ xi σ 50 4 = nI 0 ∧ xi σ 50 5 = -1 ∧ xi σ 50 10 = nI j - 1 ∧ j ≤ N
/-- at token i -/
def RS (B : Bk) (i : Nat) (σ : xS) : Prop := RTB σ c l ∧ PR σ c l N ∧ RR B σ ∧ xi σ 50 4 = nI 0 ∧ xi σ 50 5 = -1 ∧ xi σ 50 10 = nI i ∧ i ≤ N ∧ (tK c l i < 16 ∨ tK c l i = 19)
end RREAD
section RREAD2
variable {c : Nat → Nat} {l N : Nat} {B : Bk} {i j : Nat} {σ σ' : xS} {Q : xO → xS → Prop}
theorem RS.n (S : RS c l N B i σ) (hi : i < N) : RS0 c l N B (i + 1) σ := by
  obtain ⟨a, b, d, e, f, g, -⟩ := S
  refine ⟨a, b, d, e, f, ?_, hi⟩
  rw [g, show (1 : Int32) = nI 1 from rfl, nI_sub (by omega), Nat.add_sub_cancel]
theorem PR.e {J : List Nat} (h : PR σ c l N) (o : oE J σ σ') : PR σ' c l N := fun j hj => by
  obtain ⟨a1, a2, a3, a4⟩ := h j hj
  exact ⟨(o.ne (by decide)).trans a1, (o.ne (by decide)).trans a2, (o.ne (by decide)).trans a3, (o.ne (by decide)).trans a4⟩
theorem PR.t (h : PR σ c l N) (hj : j ≤ N) : xi σ 52 j = rkI (tK c l j) ∧ xi σ 53 j = nI (tF c l j) ∧ xi σ 54 j = nI (tE c l j) ∧ xi σ 55 j = rix (tR c l j) := h j hj
theorem RTB.e {J : List Nat} (h : RTB σ c l) (o : oE J σ σ') (hJ : 3 ∉ J) : RTB σ' c l := h.keep (o.at hJ) (fun b => o.ne (by decide))
theorem RS.e {J : List Nat} (S : RS c l N B i σ) (o : oE J σ σ') (hJ : ∀ a ∈ [3, 4, 5, 10, 11, 21, 23, 27, 42, 44, 45], a ∉ J) : RS c l N B i σ' := by
  obtain ⟨a, b, d, e, f, g, h⟩ := S
  exact ⟨a.e o (hJ 3 (by decide)), b.e o, d.e o (fun x hx => hJ x (by revert x; decide)), (o.at (hJ 4 (by decide))).trans e, (o.at (hJ 5 (by decide))).trans f, (o.at (hJ 10 (by decide))).trans g, h⟩
/-- changes beside the book and the tokens -/
theorem RS.k {B' : Bk} (S : RS c l N B i σ) (h : oS σ σ') (h4 : xi σ' 50 4 = xi σ 50 4) (h5 : xi σ' 50 5 = xi σ 50 5) (h10 : xi σ' 50 10 = xi σ 50 10) (R : RR B' σ') : RS c l N B' i σ' := by
  obtain ⟨a, b, d, e, f, g, hh⟩ := S
  refine ⟨a.keep (h.1 50 3 (by unfold rcl; omega)) (fun b => h.1 51 b (by unfold rcl; omega)), fun j hj => ?_, R, h4.trans e, h5.trans f, h10.trans g, hh⟩
  obtain ⟨a1, a2, a3, a4⟩ := b j hj
  exact ⟨(h.1 52 j (by unfold rcl; omega)).trans a1, (h.1 53 j (by unfold rcl; omega)).trans a2, (h.1 54 j (by unfold rcl; omega)).trans a3, (h.1 55 j (by unfold rcl; omega)).trans a4⟩
theorem n_want {a1 a2 a3 : Int32} (h : ¬ xi σ 50 4 = 0) (k : Q (.inl (some (.int 0))) σ) : wp_VectorSolverModel_want Q σ a1 a2 a3 := by
  unfold wp_VectorSolverModel_want w_VectorSolverModel_want_21
  exact ⟨fun _ => ⟨fun _ => k, fun z => absurd z h⟩, fun z => absurd z h⟩
theorem n_next (h : RX σ) (k : Q (.inl none) σ) : wp_VectorSolverModel_next Q σ := by
  unfold wp_VectorSolverModel_next
  exact ⟨fun _ => k, fun z => absurd z h.1⟩
theorem RX.v (h : RX σ) : vp_in (xi σ 50 10) 65537 := by
  obtain ⟨-, ⟨i, h1, h2⟩, -⟩ := h
  rw [h2]
  exact vp_in_nI (by omega) (by decide)
theorem n_must {a1 : Int32} (h : RX σ) (k : Q (.inl (some (.int 0))) σ) : wp_VectorSolverModel_must Q σ a1 := by
  have t : ∀ t1 t2, w_VectorSolverModel_must_19 Q t1 t2 σ := fun t1 t2 => by
    unfold w_VectorSolverModel_must_19
    refine ⟨h.v, n_want h.1 ?_⟩
    rw [xqi_i]
    exact ⟨.inl rfl, k⟩
  unfold wp_VectorSolverModel_must
  exact ⟨h.v, fun _ => t _ _, fun _ => t _ _⟩
theorem n_need {a1 : Int32} (h : RX σ) (k : Q (.inl (some (.int 0))) σ) : wp_VectorSolverModel_need Q σ a1 := by
  have t : ∀ t1, w_VectorSolverModel_need_23 Q t1 σ := fun t1 => by
    unfold w_VectorSolverModel_need_23
    refine n_must h ?_
    rw [xqi_i]
    exact ⟨.inl rfl, k⟩
  unfold wp_VectorSolverModel_need
  refine n_next h ?_
  rw [xqv_v]
  exact ⟨h.v, fun _ => t _, fun _ => t _⟩
theorem n_needWord {a1 : Int32} (h : RX σ) (k : Q (.inl (some (.int 0))) σ) : wp_VectorSolverModel_needWord Q σ a1 := by
  have t : ∀ t1, w_VectorSolverModel_needWord_23 Q t1 σ := fun t1 => by
    unfold w_VectorSolverModel_needWord_23
    refine n_must h ?_
    rw [xqi_i]
    exact ⟨.inl rfl, k⟩
  unfold wp_VectorSolverModel_needWord
  refine n_next h ?_
  rw [xqv_v]
  exact ⟨h.v, fun _ => t _, fun _ => t _⟩
theorem n_num {a1 : Int32} {a2 : Int64} (h : RX σ) (k : Q (.inl (some (.int a1))) σ) : wp_VectorSolverModel_needNumber Q σ a1 a2 := by
  unfold wp_VectorSolverModel_needNumber
  refine n_need h ?_
  rw [xqi_i]
  exact ⟨fun z => absurd rfl z, fun _ => k⟩
theorem r_wantT {a1 a2 a3 : Int32} (h : xi σ 50 4 = nI 0) (h1 : ¬ a1 = 0) (k : Q (.inl (some (.int 1))) σ) : wp_VectorSolverModel_want Q σ a1 a2 a3 := by
  unfold wp_VectorSolverModel_want w_VectorSolverModel_want_21
  exact ⟨fun z => absurd h z, fun _ => ⟨fun _ => ⟨fun z => absurd h z, fun _ => k⟩, fun z => absurd z h1⟩⟩
theorem r_wantG {a1 a2 a3 : Int32} {ek ep p : Nat} (R : RR B σ) (h : xi σ 50 4 = nI 0) (h10 : xi σ 50 10 = nI p) (hp : p ≤ 65536) (h1 : a1 = 0) (e2 : a2 = nI ek) (e3 : a3 = nI ep) (hk : 1 ≤ ek ∧ ek < 100) (k : ∀ σ', RFl B (ek, ep) σ σ' → oE [4, 5] σ σ' → Q (.inl (some (.int 0))) σ') : wp_VectorSolverModel_want Q σ a1 a2 a3 := by
  unfold wp_VectorSolverModel_want
  refine ⟨fun z => absurd h z, fun _ => ⟨fun z => absurd h1 z, fun _ s1 e1 s2 e2' => ?_⟩⟩
  have o2 : oE [4, 5] σ s2 := by rw [e2', e1]; exact (oE.pi _ _ _ (by decide)).trans (oE.pi _ _ _ (by decide))
  have f4 : xi s2 50 4 = nI ek := by rw [e2', xi_pi, if_neg (by decide), e1, xi_pi, if_pos ⟨rfl, rfl⟩, e2]
  have ne : ¬ xi s2 50 4 = 0 := by
    rw [f4, show (0 : Int32) = nI 0 from rfl, nI_eq (by omega) (by decide)]
    omega
  have pos : ¬ xi s2 50 4 ≤ 0 := by
    rw [f4, show (0 : Int32) = nI 0 from rfl, nI_leI (by omega) (by decide)]
    omega
  unfold w_VectorSolverModel_want_21
  refine ⟨fun _ => k s2 ⟨o2.S (fun b hb => jR_rcl b (by revert b; decide)), ⟨B, bex.refl _, R.e o2 (by decide)⟩, f4, ?_, ne, ⟨p, hp, (o2.at (by decide)).trans h10⟩, pos⟩ o2, fun z => absurd z ne⟩
  rw [e2', xi_pi, if_pos ⟨rfl, rfl⟩, e3]
theorem r_wantF {a1 a2 a3 : Int32} {ek ep p : Nat} (R : RR B σ) (h : xi σ 50 4 = nI 0) (h10 : xi σ 50 10 = nI p) (hp : p ≤ 65536) (h1 : a1 = 0) (e2 : a2 = nI ek) (e3 : a3 = nI ep) (hk : 1 ≤ ek ∧ ek < 100) (k : ∀ σ', RFl B (ek, ep) σ σ' → Q (.inl (some (.int 0))) σ') : wp_VectorSolverModel_want Q σ a1 a2 a3 := r_wantG R h h10 hp h1 e2 e3 hk (fun σ' f _ => k σ' f)
theorem rk_neg : ∀ K, K < 32 → ((rkI K < 0) ↔ (16 ≤ K ∧ K ≠ 19 ∧ K ≠ 16)) := by decide +kernel
theorem rk_m : ∀ K, K < 32 → 16 ≤ K → K ≠ 19 → -rkI K = nI (K - 16) := by decide +kernel
theorem rk_0 : ∀ K, K < 32 → K ≠ 16 → ((rkI K = 0) ↔ K = 19) := by decide +kernel
theorem rk_k : ∀ K, K < 32 → ∀ k, k < 16 → ((rkI K = nI (k + 1)) ↔ K = k) := by decide +kernel
theorem tK_32 (_ : okN c l N) : tK c l j < 32 ∧ tK c l j ≠ 16 := by
  have k := kow_cs c (tF c l j) (tE c l j)
  rcases tok_cs (c := c) (l := l) (i := j) with ⟨h, _⟩ | ⟨h, _⟩ | ⟨h, _⟩ | ⟨h, _⟩ | ⟨h, _⟩ | ⟨h, _⟩ <;> omega
theorem r_nextH (H : okN c l N) (S : RS0 c l N B j σ) (kf : ∀ σ', 16 ≤ tK c l j → tK c l j ≠ 19 → RFl B (badT c l j) σ σ' → oE [4, 5, 10] σ σ' → Q (.inl none) σ') (ko : ∀ σ', RS c l N B j σ' → oE [10] σ σ' → Q (.inl none) σ') : wp_VectorSolverModel_next Q σ := by
  obtain ⟨a, b, d, e, f, g, hj⟩ := S
  obtain ⟨t1, t2⟩ := tK_32 (j := j) H
  have n1 := H.1
  unfold wp_VectorSolverModel_next
  refine ⟨fun z => absurd e z, fun _ s1 e1 => ?_⟩
  have g1 : nI j - 1 + 1 = nI j := by rw [Int32.sub_add_cancel]
  rw [g, g1] at e1
  have o1 : oE [10] σ s1 := by rw [e1]; exact oE.pi _ _ _ (by decide)
  have x10 : xi s1 50 10 = nI j := by rw [e1, xi_pi, if_pos ⟨rfl, rfl⟩]
  obtain ⟨p1, p2, p3, p4⟩ := (b.e o1) j hj
  rw [x10, nI_clamp (by omega), p1]
  have vj : vp_in (nI j) 65537 := vp_in_nI (by omega) (by decide)
  have S1 : ∀ h, RS c l N B j s1 := fun h => ⟨a.e o1 (by decide), b.e o1, d.e o1 (by decide), (o1.at (by decide)).trans e, (o1.at (by decide)).trans f, x10, hj, h⟩
  refine ⟨vj, fun z => ?_, fun z => ?_⟩
  · have z := (rk_neg _ t1).mp z
    unfold w_VectorSolverModel_next_35
    rw [x10, nI_clamp (by omega), p1, p2]
    refine ⟨vj, vj, ?_⟩
    refine r_wantG (B := B) (ek := tK c l j - 16) (ep := tF c l j) (d.e o1 (by decide)) ((o1.at (by decide)).trans e) x10 (by omega) rfl (rk_m _ t1 z.1 z.2.1) rfl (by omega) (fun σ' f o' => ?_)
    rw [xqi_i]
    refine kf σ' z.1 z.2.1 (RFl.e o1 (by decide) ?_) ((o1.up (by decide)).trans (o'.up (by decide)))
    unfold badT
    rw [if_pos z.1]
    exact f
  · have z : ¬ _ := fun y => z ((rk_neg _ t1).mpr y)
    unfold w_VectorSolverModel_next_35
    rw [x10, nI_clamp (by omega), p1, p2]
    refine ⟨vj, vj, ?_⟩
    refine r_wantT ((o1.at (by decide)).trans e) (by decide) ?_
    rw [xqi_i]
    exact ko s1 (S1 (by omega)) o1
theorem r_nextG (H : okN c l N) (S : RS0 c l N B j σ) (kf : ∀ σ', 16 ≤ tK c l j → RFl B (badT c l j) σ σ' → oE [4, 5, 10] σ σ' → Q (.inl none) σ') (ko : ∀ σ', RS c l N B j σ' → oE [10] σ σ' → Q (.inl none) σ') : wp_VectorSolverModel_next Q σ := r_nextH H S (fun σ' h _ f o => kf σ' h f o) ko
theorem r_next (H : okN c l N) (S : RS0 c l N B j σ) (kf : ∀ σ', 16 ≤ tK c l j → RFl B (badT c l j) σ σ' → Q (.inl none) σ') (ko : ∀ σ', RS c l N B j σ' → oE [10] σ σ' → Q (.inl none) σ') : wp_VectorSolverModel_next Q σ := r_nextG H S (fun σ' h f _ => kf σ' h f) ko
theorem RS.v (H : okN c l N) (S : RS c l N B i σ) : vp_in (xi σ 50 10) 65537 := by
  have n1 := H.1
  have hi := S.2.2.2.2.2.2.1
  rw [S.2.2.2.2.2.1]
  exact vp_in_nI (by omega) (by decide)
theorem r_mustT (H : okN c l N) {a1 : Int32} (S : RS c l N B i σ) (h : ¬ a1 = 0) (k : Q (.inl (some (.int 1))) σ) : wp_VectorSolverModel_must Q σ a1 := by
  have t : ∀ t2, w_VectorSolverModel_must_19 Q a1 t2 σ := fun t2 => by
    unfold w_VectorSolverModel_must_19
    refine ⟨S.v H, r_wantT S.2.2.2.1 h ?_⟩
    rw [xqi_i]
    exact ⟨.inr rfl, k⟩
  unfold wp_VectorSolverModel_must
  exact ⟨S.v H, fun _ => t _, fun _ => t _⟩
theorem r_mustG (H : okN c l N) {a1 : Int32} (S : RS c l N B i σ) (h : a1 = 0) (k : ∀ σ', RFl B (badT c l i) σ σ' → oE [4, 5] σ σ' → Q (.inl (some (.int 0))) σ') : wp_VectorSolverModel_must Q σ a1 := by
  have n1 := H.1
  obtain ⟨t1, t2⟩ := tK_32 (j := i) H
  obtain ⟨a, b, d, e, f, g, hi, hk⟩ := id S
  obtain ⟨p1, p2, p3, p4⟩ := b i hi
  have t : ∀ t2 ek, t2 = nI ek → ek = (badT c l i).1 → 1 ≤ ek ∧ ek < 100 → w_VectorSolverModel_must_19 Q a1 t2 σ := fun t2 ek e2 e3 e4 => by
    unfold w_VectorSolverModel_must_19
    rw [g, nI_clamp (by omega), p2]
    refine ⟨vp_in_nI (by omega) (by decide), r_wantG (B := B) (ek := ek) (ep := tF c l i) d e g (by omega) h e2 rfl e4 (fun σ' f o' => ?_)⟩
    rw [xqi_i]
    refine ⟨.inl rfl, k σ' ?_ o'⟩
    rw [e3] at f
    exact f
  unfold wp_VectorSolverModel_must
  refine ⟨S.v H, fun z => ?_, fun z => ?_⟩
  · rw [g, nI_clamp (by omega), p1, rk_0 _ t1 t2] at z
    refine t 4 4 rfl ?_ (by omega)
    unfold badT
    rw [if_neg (by omega)]
  · rw [g, nI_clamp (by omega), p1, rk_0 _ t1 t2] at z
    refine t 3 3 rfl ?_ (by omega)
    unfold badT
    rw [if_pos (by omega), z]
theorem r_mustF (H : okN c l N) {a1 : Int32} (S : RS c l N B i σ) (h : a1 = 0) (k : ∀ σ', RFl B (badT c l i) σ σ' → Q (.inl (some (.int 0))) σ') : wp_VectorSolverModel_must Q σ a1 := r_mustG H S h (fun σ' f _ => k σ' f)
theorem r_needG {k0 : Nat} (H : okN c l N) (hk : k0 < 16) (S : RS0 c l N B j σ) (kf : ∀ e σ', pX c l j k0 = .error e → RFl B e σ σ' → oE [4, 5, 10] σ σ' → Q (.inl (some (.int 0))) σ') (ko : ∀ σ', pX c l j k0 = .ok () → RS c l N B j σ' → oE [10] σ σ' → Q (.inl (some (.int 1))) σ') : wp_VectorSolverModel_need Q σ (nI (k0 + 1)) := by
  have n1 := H.1
  obtain ⟨t1, t2⟩ := tK_32 (j := j) H
  unfold wp_VectorSolverModel_need
  refine r_nextG H S (fun σ' z f o' => ?_) (fun s1 S1 o1 => ?_)
  · rw [xqv_v]
    have q := n_need (Q := Q) (a1 := nI (k0 + 1)) f.2.2.2.2 (kf _ σ' (if_neg (by omega)) f o')
    unfold wp_VectorSolverModel_need wp_VectorSolverModel_next at q
    have q := q.1 f.2.2.2.2.1
    rw [xqv_v] at q
    exact q
  · rw [xqv_v, S1.2.2.2.2.2.1, nI_clamp (by have := S1.2.2.2.2.2.2.1; omega), (S1.2.1 j S1.2.2.2.2.2.2.1).1, rk_k _ t1 _ hk]
    refine ⟨vp_in_nI (by have := S1.2.2.2.2.2.2.1; omega) (by decide), fun z => ?_, fun z => ?_⟩
    · unfold w_VectorSolverModel_need_23
      refine r_mustG H S1 rfl (fun σ' f o' => ?_)
      rw [xqi_i]
      exact ⟨.inl rfl, kf _ σ' (if_neg z) (RFl.e o1 (by decide) f) ((o1.up (by decide)).trans (o'.up (by decide)))⟩
    · unfold w_VectorSolverModel_need_23
      refine r_mustT H S1 (by decide) ?_
      rw [xqi_i]
      exact ⟨.inr rfl, ko s1 (if_pos z) S1 o1⟩
theorem r_need {k0 : Nat} (H : okN c l N) (hk : k0 < 16) (S : RS0 c l N B j σ) (kf : ∀ e σ', pX c l j k0 = .error e → RFl B e σ σ' → Q (.inl (some (.int 0))) σ') (ko : ∀ σ', pX c l j k0 = .ok () → RS c l N B j σ' → oE [10] σ σ' → Q (.inl (some (.int 1))) σ') : wp_VectorSolverModel_need Q σ (nI (k0 + 1)) := r_needG H hk S (fun e σ' h f _ => kf e σ' h f) ko
theorem rix_eq {r : Option Nat} {n : Nat} (hr : ∀ m, r = some m → m < 47) (hn : n < 47) : (rix r = nI (ridx n)) ↔ r = some n := by
  have k1 : ∀ m, m < 47 → ¬ (-1 : Int32) = nI (ridx m) := by decide +kernel
  have k2 : ∀ m, m < 47 → ∀ n, n < 47 → ((nI (ridx m) = nI (ridx n)) ↔ m = n) := by decide +kernel
  cases r with
  | none => exact ⟨fun h => absurd h (k1 n hn), fun h => by cases h⟩
  | some m =>
    show nI (ridx m) = nI (ridx n) ↔ _
    rw [k2 m (hr m rfl) n hn]
    exact ⟨fun h => by rw [h], fun h => by cases h; rfl⟩
theorem r_needW {r0 : Nat} (H : okN c l N) (hr : r0 < 47) (S : RS0 c l N B j σ) (kf : ∀ e σ', pXR c l j r0 = .error e → RFl B e σ σ' → Q (.inl (some (.int 0))) σ') (ko : ∀ σ', pXR c l j r0 = .ok () → RS c l N B j σ' → oE [10] σ σ' → Q (.inl (some (.int 1))) σ') : wp_VectorSolverModel_needWord Q σ (nI (ridx r0)) := by
  have n1 := H.1
  unfold wp_VectorSolverModel_needWord
  refine r_next H S (fun σ' z f => ?_) (fun s1 S1 o1 => ?_)
  · rw [xqv_v]
    have ne : tR c l j ≠ some r0 := fun h => by have := (tok_R h).1; omega
    have q := n_needWord (Q := Q) (a1 := nI (ridx r0)) f.2.2.2.2 (kf _ σ' (if_neg ne) f)
    unfold wp_VectorSolverModel_needWord wp_VectorSolverModel_next at q
    have q := q.1 f.2.2.2.2.1
    rw [xqv_v] at q
    exact q
  · rw [xqv_v, S1.2.2.2.2.2.1, nI_clamp (by have := S1.2.2.2.2.2.2.1; omega), (S1.2.1 j S1.2.2.2.2.2.2.1).2.2.2, rix_eq (fun m h => tR_lt h) hr]
    refine ⟨vp_in_nI (by have := S1.2.2.2.2.2.2.1; omega) (by decide), fun z => ?_, fun z => ?_⟩
    · unfold w_VectorSolverModel_needWord_23
      refine r_mustF H S1 rfl (fun σ' f => ?_)
      rw [xqi_i]
      exact ⟨.inl rfl, kf _ σ' (if_neg z) (RFl.e o1 (by decide) f)⟩
    · unfold w_VectorSolverModel_needWord_23
      refine r_mustT H S1 (by decide) ?_
      rw [xqi_i]
      exact ⟨.inr rfl, ko s1 (if_pos z) S1 o1⟩
end RREAD2
