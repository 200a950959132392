/-! WHAT THE PARSER LEAVES: the whole of a term -/
/-- more, but no names -/
def bxt (B B' : Bk) : Prop := bex B B' ∧ bna B' = bna B
theorem bxt.refl (B : Bk) : bxt B B := ⟨bex.refl _, rfl⟩
theorem bxt.trans {B B' B2 : Bk} (h : bxt B B') (h2 : bxt B' B2) : bxt B B2 := ⟨h.1.trans h2.1, h2.2.trans h.2⟩
theorem bxt.ma {B B' : Bk} (h : bxt B B') : bma B ≤ bma B' := h.1.ma
theorem bxt_W {B : Bk} {w : Nat} : bxt B (wtB B w) := ⟨bex_W, wB_k (by decide)⟩
theorem bxt_T {B : Bk} {op so lo : Nat} {bits : BitVec 64} {as : List Nat} : bxt B (addT B op so lo bits as) := ⟨bex_T, aT_5 4⟩
def okP (c : Nat → Nat) (l N : Nat) (B : Bk) (i : Nat) (r : Nat × Bk × Nat) : Prop := gB r.2.1 ∧ bxt B r.2.1 ∧ r.1 < bma r.2.1 ∧ i ≤ r.2.2 ∧ r.2.2 < N ∧ od c l (r.2.2 + 1) = od c l i
def okT (c : Nat → Nat) (l N : Nat) (T : PT) : Prop := ∀ vis nb B i r, nb ≤ 16 → gB B → (∀ e ∈ vis, e.2 < bma B) → i ≤ N → T vis nb B i = .ok r → okP c l N B i r
theorem wB_m {B : Bk} {w : Nat} : bma (wtB B w) = bma B := wB_k (by decide)
theorem fnm_some {B : Bk} {w : List Nat} {m : Nat} (h : fnm B w = some m) : m < bna B ∧ nmw B m = w := by
  unfold fnm at h
  have a := List.find?_some h
  have b := List.mem_of_find?_eq_some h
  exact ⟨List.mem_range.mp b, of_decide_eq_true a⟩
theorem fnm_none {B : Bk} {w : List Nat} : fnm B w = none ↔ ∀ n, n < bna B → nmw B n ≠ w := by
  unfold fnm
  rw [List.find?_eq_none]
  constructor
  · intro h n hn e
    exact h n (List.mem_range.mpr hn) (decide_eq_true e)
  · intro h n hn e
    exact h n (List.mem_range.mp hn) (of_decide_eq_true e)
theorem fnm_eq {B : Bk} {w : List Nat} {m : Nat} (hm : m < bna B) (e : nmw B m = w) (h : ∀ n, n < m → nmw B n ≠ w) : fnm B w = some m := by
  cases q : fnm B w with
  | none => exact absurd e (fnm_none.mp q m hm)
  | some k =>
    have a := fnm_some q
    unfold fnm at q
    rw [List.find?_range_eq_some] at q
    by_cases z : k < m
    · exact absurd a.2 (h k z)
    · by_cases y : m < k
      · have := q.2.2 m y
        rw [decide_eq_true e] at this
        cases this
      · rw [show k = m by omega]
theorem vlk_mem {vis : Vis} {w : List Nat} {t : Nat} (h : vlk vis w = some t) : ∃ e ∈ vis, e.2 = t := by
  induction vis with
  | nil => cases h
  | cons e es ih =>
    unfold vlk at h
    split at h
    · cases h
      exact ⟨e, List.mem_cons_self .., rfl⟩
    · obtain ⟨e', h1, h2⟩ := ih h
      exact ⟨e', List.mem_cons_of_mem _ h1, h2⟩
theorem mk_const {B : Bk} {beg so wt : Nat} {bits : BitVec 64} {r : Nat × Bk} (g : gB B) (h : pMk B beg 48 so 0 bits [] wt = .ok r) (hs : okS so) (h64 : so ≤ 64) (hb : bits.toNat < 2 ^ szs so) : gB r.2 ∧ bxt B r.2 ∧ r.1 < bma r.2 := by
  obtain ⟨h1, h2, e⟩ := pMk_i h
  subst e
  have gw := g_W g h2
  refine ⟨g_T gw (by rw [wB_m]; exact h1) (fun a ha => absurd ha (by simp)) (by decide) hs ?_ (fun z => by omega), bxt_W.trans bxt_T, ?_⟩
  · have e7 : bop (addT (wtB B (bwe B + wt)) 48 so 0 bits []) (bma (wtB B (bwe B + wt))) = 48 := (aT_7 _).trans (if_pos rfl)
    have e8 : bso (addT (wtB B (bwe B + wt)) 48 so 0 bits []) (bma (wtB B (bwe B + wt))) = so := (aT_8 _).trans (if_pos rfl)
    have e2 : (addT (wtB B (bwe B + wt)) 48 so 0 bits []).2 (bma (wtB B (bwe B + wt))) = bits := (aT_2 _).trans (if_pos rfl)
    unfold typ
    dsimp only
    rw [e7, e8, e2, aT_f, aT_f0, Nat.add_sub_cancel_left]
    exact ⟨rfl, h64, hb⟩
  · show bma B < bma (addT _ _ _ _ _ _)
    rw [aT_m, wB_m]
    omega
section PURE3
variable {c : Nat → Nat} {l N : Nat}
theorem okN.t1 {i : Nat} (H : okN c l N) (hi : i ≤ N) (h : tK c l i = 1) : od c l (i + 1) + 1 = od c l i := by
  have a := (tok_1 h).1
  have b := (H.o hi).1
  omega
theorem pAt_ok (H : okN c l N) {vis : Vis} {B : Bk} {i : Nat} {r : Nat × Bk × Nat} (g : gB B) (hv : ∀ e ∈ vis, e.2 < bma B) (hi : i ≤ N) (h : pAt c l vis B i = .ok r) : okP c l N B i r := by
  unfold pAt at h
  by_cases k5 : tK c l i = 5
  · have lt := H.lt hi (by omega)
    have t2 := (tok_2 (c := c) (l := l) (i := i) (by omega) (by omega)).2.1
    rw [if_pos k5] at h
    by_cases q : tR c l i = some 7 ∨ tR c l i = some 8
    · rw [if_pos q] at h
      obtain ⟨a, h1, h⟩ := eb_inv h
      cases h
      obtain ⟨m1, m2, m3⟩ := mk_const g h1 (by unfold okS; omega) (by decide) (by split <;> decide)
      exact ⟨m1, m2, m3, Nat.le_refl _, lt, t2⟩
    · rw [if_neg q] at h
      cases e : vlk vis (tW c l i) with
      | some t =>
        rw [e] at h
        cases h
        obtain ⟨e', e1, e2⟩ := vlk_mem e
        exact ⟨g, bxt.refl _, by have := hv e' e1; rw [e2] at this; exact this, Nat.le_refl _, lt, t2⟩
      | none =>
        rw [e] at h
        cases e2 : fnm B (tW c l i) with
        | none => simp only [e2] at h; cases h
        | some m =>
          simp only [e2] at h
          cases h
          exact ⟨g, bxt.refl _, g.2.2.1.1 m (fnm_some e2).1, Nat.le_refl _, lt, t2⟩
  · rw [if_neg k5] at h
    by_cases k3 : tK c l i = 3
    · have lt := H.lt hi (by omega)
      have t2 := (tok_2 (c := c) (l := l) (i := i) (by omega) (by omega)).2.1
      have t3 := tok_34 (.inl k3)
      have t4 := t3.2.1 k3
      rw [if_pos k3] at h
      obtain ⟨a, h1, h⟩ := eb_inv h
      cases h
      rw [tW_len] at h1
      obtain ⟨m1, m2, m3⟩ := mk_const g h1 (by unfold okS; omega) (by omega) (by
        rw [szs_v (by omega) (by omega)]
        have := cst_tok (s := 1) t4.2 rfl (by omega)
        rw [Nat.one_mul] at this
        exact this)
      exact ⟨m1, m2, m3, Nat.le_refl _, lt, t2⟩
    · rw [if_neg k3] at h
      by_cases k4 : tK c l i = 4
      · have lt := H.lt hi (by omega)
        have t2 := (tok_2 (c := c) (l := l) (i := i) (by omega) (by omega)).2.1
        have t3 := tok_34 (.inr k4)
        have t4 := t3.2.2 k4
        rw [if_pos k4] at h
        obtain ⟨a, h1, h⟩ := eb_inv h
        cases h
        rw [tW_len] at h1
        obtain ⟨m1, m2, m3⟩ := mk_const g h1 (by unfold okS; omega) (by omega) (by
          rw [szs_v (by omega) (by omega)]
          have := cst_tok (s := 4) t4.2 rfl (by omega)
          rw [Nat.mul_comm] at this
          exact this)
        exact ⟨m1, m2, m3, Nat.le_refl _, lt, t2⟩
      · rw [if_neg k4] at h
        cases h
theorem pAp_ok {B : Bk} {beg op hi lo : Nat} {as : List Nat} {r : Nat × Bk} (g : gB B) (ha : ∀ a ∈ as, a < bma B) (hl : as.length ≤ 40) (h1 : 10 ≤ op) (h2 : op ≤ 46) (hlo : lo ≤ hi) (h : pAp B beg op hi lo as = .ok r) : gB r.2 ∧ bxt B r.2 ∧ r.1 < bma r.2 := by
  unfold pAp at h
  split at h
  · cases h
  · rename_i f
    have f : fitM op as.length = true := by cases e : fitM op as.length with
      | true => rfl
      | false => exact absurd e f
    cases e : sor op as.length (fun i => bso B (as.getD i 0)) hi lo with
    | none => rw [e] at h; cases h
    | some s =>
      rw [e] at h
      obtain ⟨h3, h4, e3⟩ := pMk_i h
      subst e3
      have gw := g_W g h4
      have em : ∀ j, bso (wtB B (bwe B + wgh op (szs s) (szs (bso B (as.getD 0 0))) as.length)) j = bso B j := fun j => wB_k (fun z => absurd z.1 (by decide))
      have ty := typ_ap (so := s) (lo := lo) (hi := hi) (op := op) (as := as) gw (fun a q => by rw [wB_m]; exact ha a q) f (by simp only [em]; exact e) h1 h2 hlo
      refine ⟨g_T gw (by rw [wB_m]; exact h3) (fun a q => by rw [wB_m]; exact ha a q) hl ty.2.1 ty.1 ty.2.2, bxt_W.trans bxt_T, ?_⟩
      show bma B < bma (addT _ _ _ _ _ _)
      rw [aT_m, wB_m]
      omega
theorem pOp_ok (H : okN c l N) {j : Nat} {o : Nat × Nat × Nat × Nat} (hj : j ≤ N) (h : pOp c l j = .ok o) : 10 ≤ o.1 ∧ o.1 ≤ 46 ∧ o.2.2.1 ≤ o.2.1 ∧ o.2.1 ≤ 2147483647 ∧ j ≤ o.2.2.2 ∧ o.2.2.2 < N ∧ od c l (o.2.2.2 + 1) = od c l j := by
  unfold pOp at h
  by_cases k : tK c l j = 0
  · rw [if_pos k] at h
    have b0 := H.lt hj (by omega)
    have t0 := (tok_0 k).1
    obtain ⟨_, h1, h⟩ := eb_inv h
    have a1 := tok_R (pXR_i h1)
    have b1 := H.lt (i := j + 1) b0 (by omega)
    have t1 := (tok_2 (c := c) (l := l) (i := j + 1) (by omega) (by omega)).2.1
    rw [show j + 1 + 1 = j + 2 by omega] at t1
    cases e : tR c l (j + 2) with
    | none => rw [e] at h; cases h
    | some o' =>
      rw [e] at h
      have a2 := tok_R e
      have b2 := H.lt (i := j + 2) b1 (by omega)
      have t2 := (tok_2 (c := c) (l := l) (i := j + 2) (by omega) (by omega)).2.1
      rw [show j + 2 + 1 = j + 3 by omega] at t2
      dsimp only at h
      split at h
      · rename_i q
        obtain ⟨hh, h3, h⟩ := eb_inv h
        have a3 := pN_i h3
        have b3 := H.lt (i := j + 3) b2 (by omega)
        have t3 := (tok_2 (c := c) (l := l) (i := j + 3) (by omega) (by omega)).2.1
        rw [show j + 3 + 1 = j + 4 by omega] at t3
        split at h
        · obtain ⟨lo, h4, h⟩ := eb_inv h
          have a4 := pN_i h4
          have b4 := H.lt (i := j + 4) b3 (by omega)
          have t4 := (tok_2 (c := c) (l := l) (i := j + 4) (by omega) (by omega)).2.1
          rw [show j + 4 + 1 = j + 5 by omega] at t4
          obtain ⟨_, h5, h⟩ := eb_inv h
          have a5 := pX_i h5
          have b5 := H.lt (i := j + 5) b4 (by omega)
          have t5 := (tok_1 a5).1
          cases h
          refine ⟨q.1, by omega, a4.2.2.1, a3.2.2.1, by show j ≤ j + 5; omega, b5, ?_⟩
          show od c l (j + 5 + 1) = _
          omega
        · obtain ⟨_, h5, h⟩ := eb_inv h
          have a5 := pX_i h5
          have b5 := H.lt (i := j + 4) b3 (by omega)
          have t5 := (tok_1 a5).1
          cases h
          refine ⟨q.1, by omega, Nat.zero_le _, a3.2.2.1, by show j ≤ j + 4; omega, b5, ?_⟩
          show od c l (j + 4 + 1) = _
          omega
      · cases h
  · rw [if_neg k] at h
    cases e : tR c l j with
    | none => rw [e] at h; cases h
    | some o' =>
      rw [e] at h
      have a2 := tok_R e
      have b2 := H.lt hj (by omega)
      have t2 := (tok_2 (c := c) (l := l) (i := j) (by omega) (by omega)).2.1
      dsimp only at h
      split at h
      · cases h
        exact ⟨by show 10 ≤ o'; omega, by show o' ≤ 46; omega, Nat.le_refl _, Nat.zero_le _, Nat.le_refl _, b2, t2⟩
      · cases h
theorem pAr_ok (H : okN c l N) {T : PT} (hT : okT c l N T) {vis : Vis} {nb beg : Nat} (hnb : nb ≤ 16) : ∀ m B i as r, gB B → (∀ e ∈ vis, e.2 < bma B) → i ≤ N → (∀ a ∈ as, a < bma B) → as.length + m = 40 → pAr c l T vis nb beg m B i as = .ok r → gB r.1 ∧ bxt B r.1 ∧ (∀ a ∈ r.2.2, a < bma r.1) ∧ r.2.2.length ≤ 40 ∧ i ≤ r.2.1 ∧ r.2.1 < N ∧ tK c l r.2.1 = 1 ∧ od c l r.2.1 = od c l i := by
  intro m
  induction m with
  | zero =>
    intro B i as r g hv hi ha hl h
    unfold pAr at h
    split at h
    · rename_i k
      cases h
      exact ⟨g, bxt.refl _, ha, by show as.length ≤ 40; omega, Nat.le_refl _, H.lt (i := i) hi (by omega), k, rfl⟩
    · obtain ⟨_, _, h⟩ := eb_inv h
      cases h
  | succ m ih =>
    intro B i as r g hv hi ha hl h
    unfold pAr at h
    split at h
    · rename_i k
      cases h
      exact ⟨g, bxt.refl _, ha, by show as.length ≤ 40; omega, Nat.le_refl _, H.lt (i := i) hi (by omega), k, rfl⟩
    · obtain ⟨q, h1, h⟩ := eb_inv h
      obtain ⟨o1, o2, o3, o4, o5, o6⟩ := hT _ _ _ _ _ hnb g hv hi h1
      have := ih _ _ _ _ o1 (fun e he => Nat.lt_of_lt_of_le (hv e he) o2.ma) o5 (fun a q' => by
        rcases List.mem_append.mp q' with z | z
        · exact Nat.lt_of_lt_of_le (ha a z) o2.ma
        · rw [List.mem_singleton.mp z]; exact o3) (by rw [List.length_append]; simp only [List.length_singleton]; omega) h
      exact ⟨this.1, o2.trans this.2.1, this.2.2.1, this.2.2.2.1, by omega, this.2.2.2.2.2.1, this.2.2.2.2.2.2.1, this.2.2.2.2.2.2.2.trans o6⟩
theorem pBs_ok (H : okN c l N) {T : PT} (hT : okT c l N T) {vis : Vis} {nb : Nat} : ∀ m B i new r, gB B → (∀ e ∈ vis, e.2 < bma B) → i < N → tK c l i = 0 → (∀ e ∈ new, e.2 < bma B) → nb + new.length ≤ 16 → pBs c l T vis nb m B i new = .ok r → gB r.1 ∧ bxt B r.1 ∧ (∀ e ∈ r.2.2, e.2 < bma r.1) ∧ nb + r.2.2.length ≤ 16 ∧ i ≤ r.2.1 ∧ r.2.1 ≤ N ∧ od c l r.2.1 = od c l i := by
  intro m
  induction m with
  | zero => intro B i new r g hv hi hk hn hl h; unfold pBs at h; cases h
  | succ m ih =>
    intro B i new r g hv hi hk hn hl h
    have t0 := (tok_0 hk).1
    unfold pBs at h
    obtain ⟨_, h1, h⟩ := eb_inv h
    have a1 := pX_i h1
    have b1 := H.lt (i := i + 1) hi (by omega)
    have t1 := (tok_2 (c := c) (l := l) (i := i + 1) (by omega) (by omega)).2.1
    rw [show i + 1 + 1 = i + 2 by omega] at t1
    split at h
    · cases h
    · split at h
      · cases h
      · obtain ⟨q, h2, h⟩ := eb_inv h
        obtain ⟨o1, o2, o3, o4, o5, o6⟩ := hT _ _ _ (i + 2) _ (by omega) g hv b1 h2
        obtain ⟨_, h3, h⟩ := eb_inv h
        have a3 := pX_i h3
        have b3 := H.lt (i := q.2.2 + 1) o5 (by omega)
        have t3 := H.t1 (i := q.2.2 + 1) o5 a3
        rw [show q.2.2 + 1 + 1 = q.2.2 + 2 by omega] at t3
        have hn' : ∀ e ∈ ((tW c l (i + 1), q.1) :: new), e.2 < bma q.2.1 := fun e he => by
          rcases List.mem_cons.mp he with z | z
          · rw [z]; exact o3
          · exact Nat.lt_of_lt_of_le (hn e z) o2.ma
        have od2 : od c l (q.2.2 + 2) = od c l i := by omega
        split at h
        · rename_i k0
          have := ih _ _ _ _ o1 (fun e he => Nat.lt_of_lt_of_le (hv e he) o2.ma) (H.lt (i := q.2.2 + 2) b3 (by omega)) k0 hn' (by rw [List.length_cons]; omega) h
          exact ⟨this.1, o2.trans this.2.1, this.2.2.1, this.2.2.2.1, by omega, this.2.2.2.2.2.1, this.2.2.2.2.2.2.trans od2⟩
        · cases h
          exact ⟨o1, o2, hn', by show nb + ((tW c l (i + 1), q.1) :: new).length ≤ 16; rw [List.length_cons]; omega, by show i ≤ q.2.2 + 2; omega, b3, od2⟩
theorem pBr_ok (H : okN c l N) {T : PT} (hT : okT c l N T) {vis : Vis} {nb : Nat} {B : Bk} {i : Nat} {r : Nat × Bk × Nat} (g : gB B) (hv : ∀ e ∈ vis, e.2 < bma B) (hi : i ≤ N) (k0 : tK c l i = 0) (hnb : nb ≤ 16) (h : pBr c l T vis nb B i = .ok r) : okP c l N B i r := by
  have b0 := H.lt hi (by omega)
  have t0 := (tok_0 k0).1
  unfold pBr at h
  split at h
  · rename_i q
    have a1 := tok_R q
    have b1 := H.lt (i := i + 1) b0 (by omega)
    have t1 := (tok_2 (c := c) (l := l) (i := i + 1) (by omega) (by omega)).2.1
    rw [show i + 1 + 1 = i + 2 by omega] at t1
    unfold pLt at h
    obtain ⟨_, h2, h⟩ := eb_inv h
    have a2 := pX_i h2
    have b2 := H.lt (i := i + 2) b1 (by omega)
    have t2 := (tok_0 a2).1
    rw [show i + 2 + 1 = i + 3 by omega] at t2
    obtain ⟨_, h3, h⟩ := eb_inv h
    have a3 := pX_i h3
    have b3 := H.lt (i := i + 3) b2 (by omega)
    obtain ⟨s, h4, h⟩ := eb_inv h
    obtain ⟨s1, s2, s3, s4, s5, s6, s7⟩ := pBs_ok H hT _ _ _ _ _ g hv b3 a3 (fun e he => absurd he (by simp)) (by simpa using hnb) h4
    obtain ⟨_, h5, h⟩ := eb_inv h
    have a5 := pX_i h5
    have b5 := H.lt s6 (by omega)
    have t5 := H.t1 s6 a5
    obtain ⟨u, h6, h⟩ := eb_inv h
    obtain ⟨o1, o2, o3, o4, o5, o6⟩ := hT _ _ _ (s.2.1 + 1) _ s4 s1 (fun e he => by
      rcases List.mem_append.mp he with z | z
      · exact s3 e z
      · exact Nat.lt_of_lt_of_le (hv e z) s2.ma) b5 h6
    obtain ⟨_, h7, h⟩ := eb_inv h
    have a7 := pX_i h7
    have b7 := H.lt (i := u.2.2 + 1) o5 (by omega)
    have t7 := H.t1 (i := u.2.2 + 1) o5 a7
    cases h
    refine ⟨o1, s2.trans o2, o3, by show i ≤ u.2.2 + 1; omega, b7, ?_⟩
    show od c l (u.2.2 + 1 + 1) = od c l i
    omega
  · obtain ⟨o, h1, h⟩ := eb_inv h
    obtain ⟨p1, p2, p3, p4, p5, p6, p7⟩ := pOp_ok H (j := i + 1) b0 h1
    obtain ⟨q, h2, h⟩ := eb_inv h
    obtain ⟨q1, q2, q3, q4, q5, q6, q7, q8⟩ := pAr_ok H hT hnb _ _ (o.2.2.2 + 1) _ _ g hv p6 (fun a q => absurd q (by simp)) rfl h2
    obtain ⟨s, h3, h⟩ := eb_inv h
    obtain ⟨s1, s2, s3⟩ := pAp_ok q1 q3 q4 p1 p2 p3 h3
    cases h
    have t7 := H.t1 (i := q.2.1) (by omega) q7
    refine ⟨s1, q2.trans s2, s3, by show i ≤ q.2.1; omega, q6, ?_⟩
    show od c l (q.2.1 + 1) = od c l i
    omega
theorem pTm_ok (H : okN c l N) : ∀ n, okT c l N (pTm c l n) := by
  intro n
  induction n with
  | zero =>
    intro vis nb B i r hnb g hv hi h
    unfold pTm at h
    split at h
    · cases h
    · exact pAt_ok H g hv hi h
  | succ n ih =>
    intro vis nb B i r hnb g hv hi h
    unfold pTm at h
    split at h
    · rename_i k0
      exact pBr_ok H ih g hv hi k0 hnb h
    · exact pAt_ok H g hv hi h
def okC (c : Nat → Nat) (l N : Nat) (B : Bk) (i : Nat) (r : Bk × Nat) : Prop := gB r.1 ∧ bex B r.1 ∧ i ≤ r.2 ∧ r.2 < N ∧ od c l (r.2 + 1) = od c l i
theorem pNew_i {B : Bk} {i : Nat} {u : Unit} (h : pNew c l B i = .ok u) : tK c l i = 5 ∧ tR c l i = none ∧ fnm B (tW c l i) = none ∧ bna B < 500 ∧ B.1 17 (bna B) + (tW c l i).length ≤ 65536 := by
  unfold pNew at h
  obtain ⟨_, h1, h⟩ := eb_inv h
  split at h
  · cases h
  · rename_i a
    split at h
    · rename_i b
      refine ⟨pX_i h1, ?_, ?_, b⟩
      · cases e : tR c l i with
        | none => rfl
        | some x => exact absurd (.inl (by rw [e]; simp)) a
      · cases e : fnm B (tW c l i) with
        | none => rfl
        | some x => exact absurd (.inr (by rw [e]; simp)) a
    · cases h
theorem pDc_ok (H : okN c l N) {B : Bk} {i : Nat} {r : Bk × Nat} (g : gB B) (hi : i ≤ N) (h : pDc c l B i = .ok r) : okC c l N B i r := by
  unfold pDc at h
  obtain ⟨_, h1, h⟩ := eb_inv h
  obtain ⟨n1, n2, n3, n4, n5⟩ := pNew_i h1
  have b1 := H.lt hi (by omega)
  have t1 := (tok_2 (c := c) (l := l) (i := i) (by omega) (by omega)).2.1
  obtain ⟨⟨s, k⟩, h2, h⟩ := eb_inv h
  obtain ⟨s1, s2, s3, s4, s5⟩ := pSo_i H (i := i + 1) b1 h2
  obtain ⟨m, h3, h⟩ := eb_inv h
  obtain ⟨m1, m2, m3⟩ := pMk_i h3
  subst m3
  cases h
  have gw := g_W g m2
  have e0 : ∀ a b, ¬ (a = 6 ∧ b = 10) → (wtB B (bwe B + szs s)).1 a b = B.1 a b := fun a b q => wB_k q
  have gh := g_H (so := s) gw (by rw [wB_m]; exact m1) (by rw [show bna (wtB B (bwe B + szs s)) = bna B from e0 5 4 (by decide)]; exact n4) s1
  rw [wB_m, show bth (wtB B (bwe B + szs s)) = bth B from e0 5 8 (by decide)] at gh
  have en : bna (addTh (addT (wtB B (bwe B + szs s)) 47 s (bth B) 0#64 []) (bma B)) = bna B := by
    show (addTh _ _).1 5 4 = _
    rw [aH_5, if_neg (by decide), aT_5]
    exact e0 5 4 (by decide)
  have e17 : (addTh (addT (wtB B (bwe B + szs s)) 47 s (bth B) 0#64 []) (bma B)).1 17 (bna B) = B.1 17 (bna B) := by
    rw [aH_k (by decide), aT_k (by decide)]
    exact e0 17 _ (fun z => absurd z.1 (by decide))
  have gn := g_N (ws := tW c l i) (t := bma B) gh (by rw [en]; exact n4) (by rw [en, e17]; exact n5) (tok_5w H.2.2.1 n1) (by
    show bma B < (addTh _ _).1 6 9
    rw [aH_k (by decide)]
    show bma B < bma (addT _ _ _ _ _ _)
    rw [aT_m, wB_m]
    omega)
  exact ⟨gn, bex_W.trans (bex_T.trans (bex_H.trans bex_N)), by show i ≤ k; omega, s4, s5.trans t1⟩
theorem pDf_ok (H : okN c l N) {B : Bk} {i : Nat} {r : Bk × Nat} (g : gB B) (hi : i ≤ N) (h : pDf c l B i = .ok r) : okC c l N B i r := by
  unfold pDf at h
  obtain ⟨_, h1, h⟩ := eb_inv h
  obtain ⟨n1, n2, n3, n4, n5⟩ := pNew_i h1
  have b1 := H.lt hi (by omega)
  have t1 := (tok_2 (c := c) (l := l) (i := i) (by omega) (by omega)).2.1
  obtain ⟨_, h2, h⟩ := eb_inv h
  have a2 := pX_i h2
  have b2 := H.lt (i := i + 1) b1 (by omega)
  have t2 := (tok_0 a2).1
  rw [show i + 1 + 1 = i + 2 by omega] at t2
  obtain ⟨_, h3, h⟩ := eb_inv h
  have a3 := pX_i h3
  have b3 := H.lt (i := i + 2) b2 (by omega)
  have t3 := H.t1 (i := i + 2) b2 a3
  rw [show i + 2 + 1 = i + 3 by omega] at t3
  obtain ⟨⟨s, k⟩, h4, h⟩ := eb_inv h
  obtain ⟨s1, s2, s3, s4, s5⟩ := pSo_i H (i := i + 3) b3 h4
  obtain ⟨q, h5, h⟩ := eb_inv h
  obtain ⟨o1, o2, o3, o4, o5, o6⟩ := pTm_ok H 59 _ _ _ (k + 1) _ (by decide) g (fun e he => absurd he (by simp)) s4 h5
  split at h
  · cases h
    have gn := g_N (ws := tW c l i) (t := q.1) o1.N (by rw [o2.2]; exact n4) (by rw [o2.2, o2.1.1 17 _ (Nat.lt_succ_self (bna B))]; exact n5) (tok_5w H.2.2.1 n1) o3
    refine ⟨gn, o2.1.trans bex_N, by show i ≤ q.2.2; omega, o5, ?_⟩
    show od c l (q.2.2 + 1) = od c l i
    omega
  · cases h
theorem pAf_ok (H : okN c l N) {B : Bk} {i : Nat} {r : Bk × Nat} (g : gB B) (hi : i ≤ N) (h : pAf c l B i = .ok r) : okC c l N B i r := by
  unfold pAf at h
  obtain ⟨q, h5, h⟩ := eb_inv h
  obtain ⟨o1, o2, o3, o4, o5, o6⟩ := pTm_ok H 59 _ _ _ i _ (by decide) g (fun e he => absurd he (by simp)) hi h5
  split at h
  · rename_i z
    split at h
    · rename_i y
      cases h
      exact ⟨g_A o1 y o3 z, o2.1.trans bex_A, o4, o5, o6⟩
    · cases h
  · cases h
theorem pCm_ok (H : okN c l N) {B : Bk} {j : Nat} {r : Bk × Nat} (g : gB B) (hj : j ≤ N) (h : pCm c l B j = .ok r) : okC c l N B j r ∧ j + 3 ≤ r.2 := by
  unfold pCm at h
  obtain ⟨_, h1, h⟩ := eb_inv h
  have a1 := pX_i h1
  have b1 := H.lt hj (by omega)
  have t1 := (tok_0 a1).1
  obtain ⟨q, h2, h⟩ := eb_inv h
  obtain ⟨_, h3, h⟩ := eb_inv h
  have a3 := pX_i h3
  have key : okC c l N B (j + 2) q ∧ od c l (j + 2) = od c l (j + 1) := by
    split at h2
    · rename_i z
      have a2 := tok_R z
      have b2 := H.lt (i := j + 1) b1 (by omega)
      have t2 := (tok_2 (c := c) (l := l) (i := j + 1) (by omega) (by omega)).2.1
      exact ⟨pDc_ok H g (i := j + 2) b2 h2, t2⟩
    · split at h2
      · rename_i z
        have a2 := tok_R z
        have b2 := H.lt (i := j + 1) b1 (by omega)
        have t2 := (tok_2 (c := c) (l := l) (i := j + 1) (by omega) (by omega)).2.1
        exact ⟨pDf_ok H g (i := j + 2) b2 h2, t2⟩
      · split at h2
        · rename_i z
          have a2 := tok_R z
          have b2 := H.lt (i := j + 1) b1 (by omega)
          have t2 := (tok_2 (c := c) (l := l) (i := j + 1) (by omega) (by omega)).2.1
          exact ⟨pAf_ok H g (i := j + 2) b2 h2, t2⟩
        · cases h2
  obtain ⟨⟨k1, k2, k3, k4, k5⟩, k6⟩ := key
  have b3 := H.lt (i := q.2 + 1) k4 (by omega)
  have t3 := H.t1 (i := q.2 + 1) k4 a3
  cases h
  refine ⟨⟨k1, k2, by show j ≤ q.2 + 1; omega, b3, ?_⟩, by show j + 3 ≤ q.2 + 1; omega⟩
  show od c l (q.2 + 1 + 1) = od c l j
  omega
end PURE3
