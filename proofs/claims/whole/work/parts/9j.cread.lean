/-! THE CLASS READS: its state and its small steps -/
theorem jn_int {a : Nat} (h : a < 9223372036854775808) : (BitVec.ofNat 64 a).toInt = (a : Int) := by
  have e : (BitVec.ofNat 64 a).toNat = a := by rw [BitVec.toNat_ofNat]; exact Nat.mod_eq_of_lt (by omega)
  rw [BitVec.toInt_eq_toNat_of_lt (by rw [e]; omega), e]
theorem jn_lt {a b : Nat} (ha : a < 9223372036854775808) (hb : b < 9223372036854775808) : (jL (BitVec.ofNat 64 a) < jL (BitVec.ofNat 64 b)) = (a < b) := by
  apply propext
  rw [jL_lt, BitVec.slt_iff_toInt_lt, jn_int ha, jn_int hb]
  omega
theorem jn_le {a b : Nat} (ha : a < 9223372036854775808) (hb : b < 9223372036854775808) : (jL (BitVec.ofNat 64 a) ≤ jL (BitVec.ofNat 64 b)) = (a ≤ b) := by
  apply propext
  rw [jL_le, BitVec.sle_iff_toInt_le, jn_int ha, jn_int hb]
  omega
def rdc (a b : Nat) : Prop := (a = 1 ∧ b ≠ 1 ∧ b ≠ 5) ∨ (5 ≤ a ∧ a ≤ 22) ∨ (24 ≤ a ∧ a ≤ 29)
def oR (σ σ' : xS) : Prop := (∀ a b, ¬ rdc a b → xi σ' a b = xi σ a b) ∧ (∀ a b, a ≠ 12 → a ≠ 13 → xl σ' a b = xl σ a b)
theorem oR.refl (σ : xS) : oR σ σ := ⟨fun _ _ _ => rfl, fun _ _ _ _ => rfl⟩
theorem oR.trans {σ σ' σ2 : xS} (h : oR σ σ') (h2 : oR σ' σ2) : oR σ σ2 := ⟨fun a b q => (h2.1 a b q).trans (h.1 a b q), fun a b q q' => (h2.2 a b q q').trans (h.2 a b q q')⟩
theorem oR.pi (σ : xS) (a b : Nat) (x : Int32) (h : rdc a b) : oR σ (xpi σ a b x) := ⟨fun a' b' q => by rw [xi_pi, if_neg (fun z => q (by rw [z.1, z.2]; exact h))], fun _ _ _ _ => rfl⟩
theorem oR.pb (σ : xS) (n : Nat) : oR σ (xpb σ n) := ⟨fun _ _ _ => rfl, fun _ _ _ _ => rfl⟩
theorem oB.R {σ σ' : xS} (h : oB σ σ') : oR σ σ' := ⟨fun a b q => h.1 a b (fun z => q (.inr (.inl z))), h.2.1⟩
theorem oJ.R {J : List Nat} {σ σ' : xS} (h : oJ J σ σ') (h1 : 1 ∉ J) (h5 : 5 ∉ J) : oR σ σ' := ⟨fun a b q => h.1 a b (fun z => q (.inl ⟨z.1, fun e => h1 (by rw [← e]; exact z.2), fun e => h5 (by rw [← e]; exact z.2)⟩)), fun a b _ _ => h.2.1 a b⟩
/-- the same, and no fault -/
def rdF (a b : Nat) : Prop := (a = 1 ∧ b ≠ 1 ∧ b ≠ 5 ∧ b ≠ 2 ∧ b ≠ 3) ∨ (5 ≤ a ∧ a ≤ 22) ∨ (24 ≤ a ∧ a ≤ 29)
def oF (σ σ' : xS) : Prop := (∀ a b, ¬ rdF a b → xi σ' a b = xi σ a b) ∧ (∀ a b, a ≠ 12 → a ≠ 13 → xl σ' a b = xl σ a b)
theorem oF.refl (σ : xS) : oF σ σ := ⟨fun _ _ _ => rfl, fun _ _ _ _ => rfl⟩
theorem oF.trans {σ σ' σ2 : xS} (h : oF σ σ') (h2 : oF σ' σ2) : oF σ σ2 := ⟨fun a b q => (h2.1 a b q).trans (h.1 a b q), fun a b q q' => (h2.2 a b q q').trans (h.2 a b q q')⟩
theorem oF.R {σ σ' : xS} (h : oF σ σ') : oR σ σ' := ⟨fun a b q => h.1 a b (fun z => q (by unfold rdF at z; unfold rdc; omega)), h.2⟩
theorem oB.fr {σ σ' : xS} (h : oB σ σ') : oF σ σ' := ⟨fun a b q => h.1 a b (fun z => q (.inr (.inl z))), h.2.1⟩
theorem oJ.fr {J : List Nat} {σ σ' : xS} (h : oJ J σ σ') (h1 : 1 ∉ J ∧ 2 ∉ J ∧ 3 ∉ J) (h5 : 5 ∉ J) : oF σ σ' := ⟨fun a b q => h.1 a b (fun z => q (.inl ⟨z.1, fun e => h1.1 (by rw [← e]; exact z.2), fun e => h5 (by rw [← e]; exact z.2), fun e => h1.2.1 (by rw [← e]; exact z.2), fun e => h1.2.2 (by rw [← e]; exact z.2)⟩)), fun a b _ _ => h.2.1 a b⟩
/-- what a step leaves below the tops -/
def FR (top nb : Nat) (σ σ' : xS) : Prop := oF σ σ' ∧ (∀ j, j < top → xi σ' 25 j = xi σ 25 j) ∧ (∀ a b, 26 ≤ a → a ≤ 29 → b < nb → xi σ' a b = xi σ a b) ∧ xb σ' = xb σ
theorem FR.refl (top nb : Nat) (σ : xS) : FR top nb σ σ := ⟨oF.refl σ, fun _ _ => rfl, fun _ _ _ _ _ => rfl, rfl⟩
theorem FR.trans {top nb : Nat} {σ σ' σ2 : xS} (h : FR top nb σ σ') (h2 : FR top nb σ' σ2) : FR top nb σ σ2 := ⟨h.1.trans h2.1, fun j q => (h2.2.1 j q).trans (h.2.1 j q), fun a b q1 q2 q3 => (h2.2.2.1 a b q1 q2 q3).trans (h.2.2.1 a b q1 q2 q3), h2.2.2.2.trans h.2.2.2⟩
theorem FR.le {top nb top' nb' : Nat} {σ σ' : xS} (h : FR top nb σ σ') (h1 : top' ≤ top) (h2 : nb' ≤ nb) : FR top' nb' σ σ' := ⟨h.1, fun j q => h.2.1 j (by omega), fun a b q1 q2 q3 => h.2.2.1 a b q1 q2 (by omega), h.2.2.2⟩
theorem oB.F {top nb : Nat} {σ σ' : xS} (h : oB σ σ') : FR top nb σ σ' := ⟨h.fr, fun j _ => h.1 25 j (by omega), fun a b q1 q2 _ => h.1 a b (by omega), h.2.2⟩
theorem oJ.F {J : List Nat} {top nb : Nat} {σ σ' : xS} (h : oJ J σ σ') (h1 : 1 ∉ J ∧ 2 ∉ J ∧ 3 ∉ J) (h5 : 5 ∉ J) : FR top nb σ σ' := ⟨h.fr h1 h5, fun j _ => h.1 25 j (fun z => absurd z.1 (by decide)), fun a b q1 q2 _ => h.1 a b (fun z => by omega), h.2.2⟩
/-- a fault is told -/
def FL (B : Bk) (e : Nat × Nat) (σ σ' : xS) : Prop := oR σ σ' ∧ (∃ B', bex B B' ∧ RC B' σ') ∧ xb σ' = xb σ - 1 ∧ xi σ' 1 2 = nI e.1 ∧ xi σ' 1 3 = nI e.2
theorem FL.pre {B B1 : Bk} {e : Nat × Nat} {top nb : Nat} {σ σ1 σ' : xS} (h : FR top nb σ σ1) (x : bex B B1) (f : FL B1 e σ1 σ') : FL B e σ σ' := by
  obtain ⟨f1, ⟨B', f2, f3⟩, f4, f5⟩ := f
  exact ⟨h.1.R.trans f1, ⟨B', x.trans f2, f3⟩, by rw [f4, h.2.2.2], f5⟩
section CREAD
variable (c : Nat → Nat) (l N : Nat)
def CA (i : Nat) (σ : xS) : Prop := xi σ 1 9 = nI (tK c l i) ∧ xi σ 1 10 = nI (tF c l i) ∧ xi σ 1 11 = nI (tE c l i) ∧ xi σ 1 12 = supI (tR c l i)
/-- before token j -/
def CS0 (B : Bk) (top nb j : Nat) (σ : xS) : Prop := TB σ c l ∧ PC σ c l N ∧ RC B σ ∧ xi σ 1 6 = nI j ∧ xi σ 24 4 = nI top ∧ xi σ 24 9 = nI nb ∧ 1 ≤ xb σ ∧ j ≤ N
/-- at token i -/
def CS (B : Bk) (top nb i : Nat) (σ : xS) : Prop := TB σ c l ∧ PC σ c l N ∧ RC B σ ∧ xi σ 1 6 = nI (min (i + 1) N) ∧ xi σ 24 4 = nI top ∧ xi σ 24 9 = nI nb ∧ 1 ≤ xb σ ∧ i ≤ N ∧ CA c l i σ
end CREAD
section CREAD2
variable {c : Nat → Nat} {l N : Nat} {B : Bk} {top nb i j : Nat} {σ : xS} {Q : xO → xS → Prop}
theorem CS.n (S : CS c l N B top nb i σ) (hi : i < N) : CS0 c l N B top nb (i + 1) σ := by
  obtain ⟨a, b, d, e, f, g, h, -⟩ := S
  rw [Nat.min_eq_left hi] at e
  exact ⟨a, b, d, e, f, g, h, hi⟩
theorem v_fail {ek ep : Nat} {a1 a2 : Int32} (R : RC B σ) (hx : 1 ≤ xb σ) (h1 : a1 = nI ek) (h2 : a2 = nI ep) (k : ∀ σ', FL B (ek, ep) σ σ' → Q (.inr 0) σ') : wp_Text_fail Q σ a1 a2 := by
  unfold wp_Text_fail
  intro s1 e1 s2 e2
  have ox : xb s2 = xb σ := by rw [e2, e1]; rfl
  refine ⟨by omega, k _ ?_⟩
  have o2 : oJ [2, 3] σ s2 := by rw [e2, e1]; exact (oJ.pi _ _ _ (by decide)).trans (oJ.pi _ _ _ (by decide))
  refine ⟨(o2.R (by decide) (by decide)).trans (oR.pb _ _), ⟨B, bex.refl _, ?_⟩, by rw [ox]; rfl, ?_, ?_⟩
  · exact R.keep (fun k j q1 q2 => o2.1 k j (fun z => by omega)) (fun k j _ _ => o2.2.1 k j)
  · show xi s2 1 2 = _
    rw [e2, xi_pi, if_neg (by decide), e1, xi_pi, if_pos ⟨rfl, rfl⟩, h1]
  · show xi s2 1 3 = _
    rw [e2, xi_pi, if_pos ⟨rfl, rfl⟩, h2]
theorem v_failHere (H : okN c l N) (S : CS c l N B top nb i σ) (k : ∀ σ', FL B (badT c l i) σ σ' → Q (.inr 0) σ') : wp_Text_failHere Q σ := by
  obtain ⟨a, b, d, e, f, g, hx, hi, c1, c2, c3, c4⟩ := S
  have ok := tok_ok (c := c) (j := i) H.2.1
  have w21 : ∀ (ek : Nat) (x : Int32), x = nI ek → ek = (badT c l i).1 → w_Text_failHere_21 Q x σ := fun ek x ex eb => by
    unfold w_Text_failHere_21
    intro s1 e1
    have t : wp_Text_fail Q σ x (xi s1 1 10) := v_fail d hx ex (show xi s1 1 10 = nI (tF c l i) by rw [e1, xi_pi, if_neg (by decide)]; exact c2) (fun σ' h => k σ' (by rw [eb] at h; exact h))
    unfold wp_Text_fail at t
    exact t s1 e1
  unfold wp_Text_failHere
  rw [c1]
  have t3 : tK c l i < 256 := ok.2.2.1
  refine ⟨fun z => w21 4 _ rfl ?_, fun z => w21 (tK c l i - 16) _ ?_ ?_⟩
  · have z : tK c l i < 16 := (nI_ltI (by omega) (by decide)).mp z
    unfold badT
    rw [if_neg (by omega)]
  · have z : ¬ tK c l i < 16 := fun y => z ((nI_ltI (b := 16) (by omega) (by decide)).mpr y)
    show nI (tK c l i) - nI 16 = _
    exact nI_sub (by omega)
  · have z : ¬ tK c l i < 16 := fun y => z ((nI_ltI (b := 16) (by omega) (by decide)).mpr y)
    unfold badT
    rw [if_pos (by omega)]
theorem v_next (H : okN c l N) (S : CS0 c l N B top nb j σ) (k : ∀ σ', CS c l N B top nb j σ' → oJ [6, 9, 10, 11, 12] σ σ' → Q (.inl none) σ') : wp_Text_next Q σ := by
  obtain ⟨a, b, d, e, f, g, hx, hj⟩ := S
  have n1 := H.1
  have ok := tok_ok (c := c) (j := j) H.2.1
  obtain ⟨u1, u2, u3, u4⟩ := p_un ok
  unfold wp_Text_next
  rw [e, nI_clamp (by omega), b.1 j hj]
  refine ⟨vp_in_nI (by omega) (by decide), fun x1 e1 => ?_⟩
  subst e1
  rw [u1, u2, u3, u4]
  intro s2 e2 s3 e3 s4 e4 s5 e5
  have o5 : oJ [6, 9, 10, 11, 12] σ s5 := by rw [e5, e4, e3, e2]; exact ((oJ.pi _ _ _ (by decide)).trans (oJ.pi _ _ _ (by decide))).trans ((oJ.pi _ _ _ (by decide)).trans (oJ.pi _ _ _ (by decide)))
  have ca : CA c l j s5 := by
    refine ⟨?_, ?_, ?_, ?_⟩
    · rw [e5, xi_pi, if_neg (by decide), e4, xi_pi, if_pos ⟨rfl, rfl⟩]
    · rw [e5, xi_pi, if_neg (by decide), e4, xi_pi, if_neg (by decide), e3, xi_pi, if_neg (by decide), e2, xi_pi, if_pos ⟨rfl, rfl⟩]
    · rw [e5, xi_pi, if_neg (by decide), e4, xi_pi, if_neg (by decide), e3, xi_pi, if_pos ⟨rfl, rfl⟩]
    · rw [e5, xi_pi, if_pos ⟨rfl, rfl⟩]
  have x5 : xi s5 1 5 = nI (N + 1) := (o5.at (by decide)).trans b.2
  have x6 : xi s5 1 6 = nI j := by rw [e5, xi_pi, if_neg (by decide), e4, xi_pi, if_neg (by decide), e3, xi_pi, if_neg (by decide), e2, xi_pi, if_neg (by decide)]; exact e
  have gen : ∀ s, oJ [6, 9, 10, 11, 12] σ s → xi s 1 6 = nI (min (j + 1) N) → CA c l j s → CS c l N B top nb j s := fun s o h6 hca =>
    ⟨a.keep o (by decide), ⟨fun i hi => (o.2.1 3 i).trans (b.1 i hi), (o.at (by decide)).trans b.2⟩, d.keep (fun k j q1 q2 => o.1 k j (fun z => by omega)) (fun k j _ _ => o.2.1 k j), h6, (o.1 24 4 (fun z => absurd z.1 (by decide))).trans f, (o.1 24 9 (fun z => absurd z.1 (by decide))).trans g, by rw [o.2.2]; exact hx, hj, hca⟩
  rw [x5, x6, show (1 : Int32) = nI 1 from rfl, nI_sub (by omega), Nat.add_sub_cancel, nI_leI (by omega) (by omega)]
  refine ⟨fun z => k s5 (gen s5 o5 (by rw [x6, show min (j + 1) N = j by omega]) ca) o5, fun z s6 e6 => ?_⟩
  rw [nI_add] at e6
  have o6 : oJ [6, 9, 10, 11, 12] s5 s6 := by rw [e6]; exact oJ.pi _ _ _ (by decide)
  refine k s6 (gen s6 (o5.trans o6) (by rw [e6, xi_pi, if_pos ⟨rfl, rfl⟩, show min (j + 1) N = j + 1 by omega]) ?_) (o5.trans o6)
  obtain ⟨c1, c2, c3, c4⟩ := ca
  refine ⟨?_, ?_, ?_, ?_⟩
  · rw [e6, xi_pi, if_neg (by decide)]; exact c1
  · rw [e6, xi_pi, if_neg (by decide)]; exact c2
  · rw [e6, xi_pi, if_neg (by decide)]; exact c3
  · rw [e6, xi_pi, if_neg (by decide)]; exact c4
theorem v_isOver (H : okN c l N) (S : CS0 c l N B top nb j σ) (k : Q (.inl (some (.int (bI (decide (tK c l j = 19)))))) σ) : wp_Text_isOver Q σ := by
  obtain ⟨a, b, d, e, f, g, hx, hj⟩ := S
  have n1 := H.1
  have ok := tok_ok (c := c) (j := j) H.2.1
  have t3 : tK c l j < 256 := ok.2.2.1
  obtain ⟨u1, u2, u3, u4⟩ := p_un ok
  unfold wp_Text_isOver
  rw [e, nI_clamp (by omega), b.1 j hj, u3, show (19 : Int32) = nI 19 from rfl, nI_eq (Nat.lt_trans t3 (by decide)) (by decide)]
  refine ⟨vp_in_nI (by omega) (by decide), fun z => ?_, fun z => ?_⟩
  · rw [decide_eq_false z] at k; exact k
  · rw [decide_eq_true z] at k; exact k
theorem v_expect {k0 : Nat} (H : okN c l N) (hk : k0 < 16) (S : CS0 c l N B top nb j σ) (kf : ∀ e σ', pX c l j k0 = .error e → FL B e σ σ' → Q (.inr 0) σ') (ko : ∀ σ', pX c l j k0 = .ok () → CS c l N B top nb j σ' → oJ [6, 9, 10, 11, 12] σ σ' → Q (.inl none) σ') : wp_Reader_expect Q σ (nI k0) := by
  have t3 : tK c l j < 256 := (tok_ok (c := c) (j := j) H.2.1).2.2.1
  unfold wp_Reader_expect
  refine v_next H S (fun σ1 S1 o1 => ?_)
  rw [xqv_v]
  have ca := S1.2.2.2.2.2.2.2.2.1
  rw [ca, nI_eq (by omega) (by omega)]
  refine ⟨fun z => ko σ1 (if_pos z) S1 o1, fun z => ?_⟩
  refine v_failHere H S1 (fun σ' h => ?_)
  rw [xqi_e]
  exact kf _ σ' (if_neg z) (FL.pre (top := 0) (nb := 0) (o1.F (by decide) (by decide)) (bex.refl _) h)
theorem supI_eq {r : Option Nat} {n : Nat} (hr : ∀ m, r = some m → m < 47) (hn : n < 47) : (supI r = nI n) = (r = some n) := by
  apply propext
  cases r with
  | none =>
    constructor
    · intro h
      have : ∀ n, n < 47 → ¬ (-1 : Int32) = nI n := by decide +kernel
      exact absurd h (this n hn)
    · intro h; cases h
  | some m =>
    have := hr m rfl
    show nI m = nI n ↔ _
    rw [nI_eq (by omega) (by omega)]
    constructor
    · intro h; rw [h]
    · intro h; cases h; rfl
theorem tR_lt {m : Nat} (h : tR c l i = some m) : m < 47 := (tok_R h).2.1
theorem v_expR {r0 : Nat} (H : okN c l N) (hr : r0 < 47) (S : CS0 c l N B top nb j σ) (kf : ∀ e σ', pXR c l j r0 = .error e → FL B e σ σ' → Q (.inr 0) σ') (ko : ∀ σ', pXR c l j r0 = .ok () → CS c l N B top nb j σ' → oJ [6, 9, 10, 11, 12] σ σ' → Q (.inl none) σ') : wp_Reader_expectReserved Q σ (nI r0) := by
  unfold wp_Reader_expectReserved
  refine v_next H S (fun σ1 S1 o1 => ?_)
  rw [xqv_v]
  have ca := S1.2.2.2.2.2.2.2.2.2.2.2
  rw [ca, supI_eq (fun m h => tR_lt h) hr]
  refine ⟨fun z => ko σ1 (if_pos z) S1 o1, fun z => ?_⟩
  refine v_failHere H S1 (fun σ' h => ?_)
  rw [xqi_e]
  exact kf _ σ' (if_neg z) (FL.pre (top := 0) (nb := 0) (o1.F (by decide) (by decide)) (bex.refl _) h)
theorem num_snoc (w : List Nat) (d : Nat) : num (w ++ [d]) = 10 * num w + (d - 48) := by
  unfold num
  rw [List.foldl_append]
  rfl
theorem num_app (w v : List Nat) : num w ≤ num (w ++ v) := by
  induction v generalizing w with
  | nil => rw [List.append_nil]; exact Nat.le_refl _
  | cons d v ih =>
    have e : w ++ d :: v = (w ++ [d]) ++ v := by simp
    have := ih (w ++ [d])
    rw [num_snoc] at this
    rw [e]
    omega
theorem wtx_snoc {p q : Nat} (h : p ≤ q) : wtx c p (q + 1) = wtx c p q ++ [c q] := by
  unfold wtx
  rw [show q + 1 - p = q - p + 1 by omega, List.range_succ, List.map_append]
  simp only [List.map_cons, List.map_nil]
  rw [show p + (q - p) = q by omega]
theorem wtx_app {p q r : Nat} (h : p ≤ q) (h2 : q ≤ r) : ∃ v, wtx c p r = wtx c p q ++ v := by
  obtain ⟨d, rfl⟩ : ∃ d, r = q + d := ⟨r - q, by omega⟩
  clear h2
  induction d with
  | zero => exact ⟨[], by simp⟩
  | succ d ih =>
    obtain ⟨v, hv⟩ := ih
    refine ⟨v ++ [c (q + d)], ?_⟩
    rw [show q + (d + 1) = q + d + 1 by omega, wtx_snoc (by omega), hv, List.append_assoc]
theorem tok_dig (h : tK c l i = 2) : alD c 10 (tF c l i) (tE c l i) = true := by
  have t := (tok_2 (c := c) (l := l) (i := i) (by omega) (by omega)).1
  rw [h] at t
  generalize tF c l i = p at t ⊢
  generalize tE c l i = q at t ⊢
  unfold kow at t
  by_cases a : dig (c p) = true
  · rw [if_pos a] at t
    split at t
    · rename_i z; exact z.2
    · omega
  · rw [if_neg a] at t
    split at t
    · omega
    · split at t
      · omega
      · split at t
        · omega
        · split at t <;> omega
theorem dig_c {k : Nat} (h : tK c l i = 2) (h1 : tF c l i ≤ k) (h2 : k < tE c l i) : 48 ≤ c k ∧ c k ≤ 57 := by
  have := of_decide_eq_true (tok_dig h) k h2 h1
  rw [dlt_10] at this
  exact of_decide_eq_true this
theorem v_numT (H : okN c l N) (S : CS c l N B top nb i σ) (h2 : tK c l i = 2) (k : ∀ v, v < 9223372036854775808 → (v ≤ 2147483647 → v = num (tW c l i)) → (2147483647 < v → 2147483647 < num (tW c l i)) → Q (.inl (some (.long (jL (BitVec.ofNat 64 v))))) σ) : wp_Text_numeral Q σ := by
  obtain ⟨a, b, d, e, f, g, hx, hi, c1, c2, c3, c4⟩ := S
  have t2 := tok_2 (c := c) (l := l) (i := i) (by omega) (by omega)
  have l1 := H.2.1
  unfold wp_Text_numeral
  rw [c2]
  intro x1 e1
  subst e1
  have key := loop_i (σ := Unit) (fun n j _ => w_Text_numeral_7 Q n (jL (BitVec.ofNat 64 (num (wtx c (tF c l i) j)))) (nI j) σ) (fun j _ => tF c l i ≤ j ∧ num (wtx c (tF c l i) j) ≤ 21474836479) (tE c l i) (fun n _ hI => ?_) (fun n j _ hj hI hs => ?_)
  · have e0 : num (wtx c (tF c l i) (tF c l i)) = 0 := by unfold wtx; rw [Nat.sub_self]; rfl
    have k0 := key (tE c l i + 1) (tF c l i) () (by omega) (by omega) ⟨Nat.le_refl _, by rw [e0]; decide⟩
    rw [e0] at k0
    exact ⟨_, k0⟩
  · unfold w_Text_numeral_7
    rw [c3]
    refine ⟨fun _ => k _ (by omega) (fun _ => rfl) (fun h => h), fun z => absurd (Int32.le_refl _) z⟩
  · have dc := dig_c h2 hI.1 hj
    have bb := a.2.2.1 j (by omega)
    obtain ⟨v, hv⟩ := wtx_app (c := c) (show tF c l i ≤ j from hI.1) (show j ≤ tE c l i by omega)
    have mono := num_app (wtx c (tF c l i) j) v
    rw [← hv] at mono
    have sn : num (wtx c (tF c l i) (j + 1)) = 10 * num (wtx c (tF c l i) j) + (c j - 48) := by rw [wtx_snoc hI.1, num_snoc]
    generalize hP : num (wtx c (tF c l i) j) = P at *
    unfold w_Text_numeral_7
    rw [c3, nI_leI (by omega) (by omega), show (0 : Int32) = nI 0 from rfl, lc_gt, l64_lit, jn_lt (by decide) (by omega)]
    refine ⟨fun z => absurd z (by omega), fun _ => ⟨fun z => ?_, fun z => ⟨vp_in_nI (by omega) (by decide), fun x2 e2 x3 e3 => ?_⟩⟩⟩
    · exact k P (by omega) (fun q => absurd q (by omega)) (fun _ => by unfold tW; omega)
    · rw [nI_clamp (by omega), bb.2, sb_n (by omega), jL_i2l (by omega), l64_lit, l64_lit, jL_mul, jL_add, jL_sub] at e2
      rw [show (1 : Int32) = nI 1 from rfl, nI_add] at e3
      have eb : BitVec.ofNat 64 10 * BitVec.ofNat 64 P + BitVec.ofNat 64 (c j) - BitVec.ofNat 64 48 = BitVec.ofNat 64 (10 * P + (c j - 48)) := by
        apply BitVec.eq_of_toNat_eq
        simp only [BitVec.toNat_sub, BitVec.toNat_add, BitVec.toNat_mul, BitVec.toNat_ofNat]
        omega
      rw [eb, ← sn] at e2
      subst e2 e3
      exact hs () ⟨by omega, by omega⟩
/-- a numeral of the class's: any that an int can be -/
theorem v_num (H : okN c l N) (S : CS0 c l N B top nb j σ) (kf : ∀ e σ', (tK c l j = 2 → 2147483647 < num (tW c l j) ∧ e = (7, tF c l j)) → (tK c l j ≠ 2 → e = badT c l j) → FL B e σ σ' → Q (.inr 0) σ') (ko : ∀ v σ', tK c l j = 2 → v = num (tW c l j) → v ≤ 2147483647 → CS c l N B top nb j σ' → oJ [6, 9, 10, 11, 12] σ σ' → Q (.inl (some (.int (nI v)))) σ') : wp_Reader_numeral Q σ := by
  have t3 : tK c l j < 256 := (tok_ok (c := c) (j := j) H.2.1).2.2.1
  unfold wp_Reader_numeral
  refine v_next H S (fun σ1 S1 o1 => ?_)
  rw [xqv_v]
  have ca := S1.2.2.2.2.2.2.2.2
  rw [ca.1, show (2 : Int32) = nI 2 from rfl, nI_eq (by omega) (by decide)]
  have fp : ∀ e σ', FL B e σ1 σ' → FL B e σ σ' := fun e σ' h => FL.pre (top := 0) (nb := 0) (o1.F (by decide) (by decide)) (bex.refl _) h
  refine ⟨fun z => ?_, fun z => ?_⟩
  · refine v_numT H S1 z (fun v v1 v2 v3 => ?_)
    rw [xql_l, show (0 : Int32) = nI 0 from rfl, lc_le, l64_lit, jn_le v1 (by decide)]
    refine ⟨fun y => ?_, fun y => ?_⟩
    · rw [jL_l2i, BitVec.toNat_ofNat, Nat.mod_eq_of_lt (by omega)]
      exact ko v σ1 z (v2 y) y S1 o1
    · refine v_fail (ek := 7) (ep := tF c l j) S1.2.2.1 S1.2.2.2.2.2.2.1 rfl ca.2.1 (fun σ' h => ?_)
      rw [xqi_e]
      exact kf _ σ' (fun _ => ⟨v3 (by omega), rfl⟩) (fun q => absurd z q) (fp _ σ' h)
  · refine v_failHere H S1 (fun σ' h => ?_)
    rw [xqi_e]
    exact kf _ σ' (fun q => absurd q z) (fun _ => rfl) (fp _ σ' h)
end CREAD2
