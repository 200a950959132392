/-! THE REFERENCE READS: any term -/
def rT (c : Nat → Nat) (l N n : Nat) : Prop := ∀ (Q : xO → xS → Prop) (σ : xS) (B : Bk) (p h nb i : Nat) (E : Nat → Nat × Nat × Bool) (Lt : Nat → Nat) (m : Nat) (t0 : Int32), gB B → RS c l N B i σ → RP p h nb σ → RE c l N E Lt p nb σ → (∀ e ∈ vsl c l E nb, e.2 < bma B) → nb ≤ 16 → p + n ≤ 60 → h ≤ 40 * p → 70060 ≤ od c l i + n → N + 1 < m + i →
  (∀ e σ' t, pTm c l n (vsl c l E nb) nb B i = .error e → RFl B e σ σ' → Q (.inl (some (.int t))) σ') →
  (∀ r σ' m' m2, pTm c l n (vsl c l E nb) nb B i = .ok r → N < m' + r.2.2 → p + 2 ≤ m2 → RS c l N r.2.1 r.2.2 σ' → RP p h nb σ' → RPF p h nb σ σ' → w_VectorSolverModel_term_142 Q (w_VectorSolverModel_term_19 Q m') m2 0 (nI r.1) 1 σ') → w_VectorSolverModel_term_19 Q m 0 t0 σ
/-- an application's place on the pile -/
def ARG (p h : Nat) (as : List Nat) (op hi lo beg : Nat) (σ : xS) : Prop := xi σ 70 p = nI 0 ∧ xi σ 71 p = nI beg ∧ xi σ 72 p = nI (opr op) ∧ xi σ 73 p = nI hi ∧ xi σ 74 p = nI lo ∧ xi σ 75 p = nI as.length ∧ ∀ k, k < as.length → xi σ 76 (h + k) = nI (as.getD k 0)
section RTM
variable {c : Nat → Nat} {l N : Nat} {B : Bk} {i j p h nb m n : Nat} {σ σ' : xS} {Q : xO → xS → Prop} {E : Nat → Nat × Nat × Bool} {Lt : Nat → Nat} {P : Nat → Nat × Nat} {as : List Nat} {op hi lo beg : Nat}
theorem pAr_c {T : PT} {vis : Vis} (h : tK c l i = 1) : ∀ m, pAr c l T vis nb beg m B i as = .ok (B, i, as) := by
  intro m
  cases m with
  | zero => unfold pAr; rw [if_pos h]
  | succ m => unfold pAr; rw [if_pos h]
theorem pTm_bad {vis : Vis} (h : 16 ≤ tK c l i) : pTm c l n vis nb B i = .error (badT c l i) := by
  have a : pAt c l vis B i = .error (badT c l i) := by
    unfold pAt
    rw [if_neg (by omega), if_neg (by omega), if_neg (by omega)]
  cases n with
  | zero => exact (if_neg (by omega)).trans a
  | succ n => exact (if_neg (by omega)).trans a
theorem pAr_bad {vis : Vis} (h : 16 ≤ tK c l i) : ∀ m, pAr c l (pTm c l n) vis nb beg m B i as = .error (badT c l i) := by
  intro m
  cases m with
  | zero => unfold pAr; rw [if_neg (by omega), eb_er (pTm_bad h)]
  | succ m => unfold pAr; rw [if_neg (by omega), eb_er (pTm_bad h)]
theorem r_args (H : okN c l N) (hT : rT c l N n) (hL : ∀ b, b < nb → Lt b < p) (hv : ∀ e ∈ vsl c l E nb, e.2 < bma B) (hn : nb ≤ 16) (hpn : p + 1 + n ≤ 60) (hh : h ≤ 40 * p) (h1 : 10 ≤ op) (h2 : op ≤ 46) (hlo : lo ≤ hi) (hhi : hi ≤ 2147483647)
    (X : PE (Nat × Bk × Nat)) (kf : ∀ e σ' t, X = .error e → RFl B e σ σ' → Q (.inl (some (.int t))) σ')
    (ko : ∀ r σ' m' m2, X = .ok r → N < m' + r.2.2 → p + 2 ≤ m2 → RS c l N r.2.1 r.2.2 σ' → RP p h nb σ' → RPF p h nb σ σ' → w_VectorSolverModel_term_142 Q (w_VectorSolverModel_term_19 Q m') m2 0 (nI r.1) 1 σ') :
    ∀ mm B1 j as σ1 m1 t1, gB B1 → bex B B1 → RS c l N B1 j σ1 → tK c l j ≠ 1 → RP (p + 1) (h + as.length) nb σ1 → ARG p h as op hi lo beg σ1 → RE c l N E Lt p nb σ1 → (∀ a ∈ as, a < bma B1) → RPF p h nb σ σ1 → as.length + mm = 40 → 70060 ≤ od c l j + n → N + 1 < m1 + j → X = (eb (pAr c l (pTm c l n) (vsl c l E nb) nb beg mm B1 j as) fun q => eb (pAp q.1 beg op hi lo q.2.2) fun r => .ok (r.1, r.2, q.2.1)) → w_VectorSolverModel_term_19 Q m1 0 t1 σ1 := by
  intro mm
  induction mm with
  | zero =>
    intro B1 j as σ1 m1 t1 g1 x1 S1 k1 P1 A1 E1 ha F1 hl od1 hm hx
    unfold pAr at hx
    rw [if_neg k1] at hx
    have hv1 : ∀ e ∈ vsl c l E nb, e.2 < bma B1 := fun e he => Nat.lt_of_lt_of_le (hv e he) x1.ma
    refine hT Q σ1 B1 (p + 1) (h + as.length) nb j E Lt m1 t1 g1 S1 P1 (E1.up (by omega)) hv1 hn (by omega) (by omega) od1 hm (fun e σ' t he f => ?_) (fun r s2 m' m2 hr hm' hm2 S2 P2 F2 => ?_)
    · exact kf e σ' t (hx.trans (eb_er (eb_er he))) (RFl.pre F1.1 x1 f)
    obtain ⟨m3, rfl⟩ : ∃ m3, m2 = m3 + 1 := ⟨m2 - 1, by omega⟩
    obtain ⟨o1, o2, o3, o4, o5, o6⟩ := pTm_ok H n _ _ _ j _ hn g1 hv1 S1.2.2.2.2.2.2.1 hr
    rw [eb_ok hr] at hx
    refine B_go (p := p) S2.2.2.2.1 P2.1 (by omega) ?_
    refine r_goA (t := r.1) (k := as.length) (beg := beg) H S2 o5 P2 ((F2.2.1 70 p (by decide) (by decide) (by omega)).trans A1.1) ((F2.2.1 71 p (by decide) (by decide) (by omega)).trans A1.2.1) ((F2.2.1 75 p (by decide) (by decide) (by omega)).trans A1.2.2.2.2.2.1) (by omega) (by omega) (by omega) (fun _ σ' f => ?_) (fun z => absurd z (by omega)) (fun z => absurd z (by omega)) (fun z => absurd z (by omega))
    refine gQ0 (fx142 f.X (fx19 f.X (kf _ σ' _ (hx.trans rfl) (RFl.pre F1.1 x1 (RFl.pre F2.1 o2.1 f))) (by omega)) (by omega))
  | succ mm ih =>
    intro B1 j as σ1 m1 t1 g1 x1 S1 k1 P1 A1 E1 ha F1 hl od1 hm hx
    unfold pAr at hx
    rw [if_neg k1] at hx
    have hv1 : ∀ e ∈ vsl c l E nb, e.2 < bma B1 := fun e he => Nat.lt_of_lt_of_le (hv e he) x1.ma
    refine hT Q σ1 B1 (p + 1) (h + as.length) nb j E Lt m1 t1 g1 S1 P1 (E1.up (by omega)) hv1 hn (by omega) (by omega) od1 hm (fun e σ' t he f => ?_) (fun r s2 m' m2 hr hm' hm2 S2 P2 F2 => ?_)
    · exact kf e σ' t (hx.trans (eb_er (eb_er he))) (RFl.pre F1.1 x1 f)
    obtain ⟨m3, rfl⟩ : ∃ m3, m2 = m3 + 1 := ⟨m2 - 1, by omega⟩
    obtain ⟨o1, o2, o3, o4, o5, o6⟩ := pTm_ok H n _ _ _ j _ hn g1 hv1 S1.2.2.2.2.2.2.1 hr
    rw [eb_ok hr] at hx
    have x2 : bex B r.2.1 := x1.trans o2.1
    have F12 : RPF p h nb σ s2 := F1.trans (F2.le (by omega) (by omega) (Nat.le_refl _))
    have el : (as ++ [r.1]).length = as.length + 1 := by rw [List.length_append]; rfl
    have ha' : ∀ a ∈ as ++ [r.1], a < bma r.2.1 := fun a q => by
      rcases List.mem_append.mp q with z | z
      · exact Nat.lt_of_lt_of_le (ha a z) o2.ma
      · rw [List.mem_singleton.mp z]; exact o3
    have mkA : ∀ s3, DA p (h + as.length) as.length r.1 s2 s3 → ARG p h (as ++ [r.1]) op hi lo beg s3 := fun s3 D => by
      have row : ∀ a, 70 ≤ a → a ≤ 74 → xi s3 a p = xi σ1 a p := fun a q1 q2 => (D.2.2.1 a p (by omega) (by omega) (by omega)).trans (F2.2.1 a p (by omega) (by omega) (by omega))
      refine ⟨(row 70 (by decide) (by decide)).trans A1.1, (row 71 (by decide) (by decide)).trans A1.2.1, (row 72 (by decide) (by decide)).trans A1.2.2.1, (row 73 (by decide) (by decide)).trans A1.2.2.2.1, (row 74 (by decide) (by decide)).trans A1.2.2.2.2.1, by rw [el]; exact D.1, fun k hk => ?_⟩
      rw [el] at hk
      by_cases q : k = as.length
      · rw [q, D.2.1, List.getD_eq_getElem?_getD, List.getElem?_append_right (Nat.le_refl _), Nat.sub_self]
        rfl
      · rw [D.2.2.1 76 _ (by omega) (by omega) (by omega), F2.2.2.1 _ (by omega), A1.2.2.2.2.2.2 k (by omega), List.getD_eq_getElem?_getD, List.getD_eq_getElem?_getD, List.getElem?_append_left (by omega)]
    refine B_go (p := p) S2.2.2.2.1 P2.1 (by omega) ?_
    refine r_goA (t := r.1) (k := as.length) (beg := beg) H S2 o5 P2 ((F2.2.1 70 p (by decide) (by decide) (by omega)).trans A1.1) ((F2.2.1 71 p (by decide) (by decide) (by omega)).trans A1.2.1) ((F2.2.1 75 p (by decide) (by decide) (by omega)).trans A1.2.2.2.2.2.1) (by omega) (by omega) (by omega) (fun z => absurd z (by omega)) (fun _ z σ' f => ?_) (fun _ z s3 S3 P3 D3 => ?_) (fun _ z s3 S3 P3 D3 => ?_)
    · exact gQ0 (fx142 f.X (fx19 f.X (kf _ σ' _ (hx.trans (eb_er (pAr_bad z mm))) (RFl.pre F12.1 x2 f)) (by omega)) (by omega))
    · rw [eb_ok (pAr_c z mm)] at hx
      have A3 := mkA s3 D3
      have F3 : RPF p h nb σ s3 := F12.trans (D3.P (by omega))
      refine gQa P3.1 (by omega) A3.1 ?_
      refine r_apply (p := p) (h := h) (as := as ++ [r.1]) (op := op) (hi := hi) (lo := lo) (beg := beg) H S3 ⟨⟨P3.1, by omega⟩, ⟨by rw [el]; exact P3.2.1, by rw [el]; omega, by rw [el]; omega⟩, A3.2.2.2.2.2.1, A3.2.2.1, A3.2.1, A3.2.2.2.1, A3.2.2.2.2.1, A3.2.2.2.2.2.2, S3.2.2.1, o1, ha'⟩ h1 h2 hlo hhi (fun e σ' he f => ?_) (fun r' s4 hr' S4 h36 T4 => ?_)
      · rw [xqi_i]
        exact fx142 f.X (fx19 f.X (kf e σ' _ (hx.trans (eb_er he)) (RFl.pre F3.1 x2 f)) (by omega)) (by omega)
      · rw [xqi_i]
        rw [eb_ok hr'] at hx
        exact ko (r'.1, r'.2, r.2.2 + 1) s4 m' m3 hx (by dsimp only; omega) (by omega) S4 ⟨(T4.1 50 29 (by omega) (by omega)).trans P3.1, h36, (T4.1 50 38 (by omega) (by omega)).trans P3.2.2⟩ (F3.trans T4.P)
    · have F3 : RPF p h nb σ s3 := F12.trans (D3.P (by omega))
      refine gQ0 (ex142 S3.2.2.2.1 ?_ (by omega))
      refine ih r.2.1 (r.2.2 + 1) (as ++ [r.1]) s3 m' _ o1 x2 S3 z (by rw [el]; exact P3) (mkA s3 D3) ((E1.keep (F2.le (by omega) (Nat.le_refl _) (Nat.le_refl _))).keep (D3.P (Nat.le_refl _))) ha' F3 (by rw [el]; omega) (by rw [o6]; exact od1) (by omega) hx
/-- a let's body -/
theorem r_body (H : okN c l N) (hT : rT c l N n) (hLt : ∀ b, b < nb → Lt b < p) (hv : ∀ e ∈ vsl c l E nb, e.2 < bma B) (hn : nb ≤ 16) (hpn : p + 1 + n ≤ 60) (hh : h ≤ 40 * p)
    (X : PE (Nat × Bk × Nat)) (kf : ∀ e σ' t, X = .error e → RFl B e σ σ' → Q (.inl (some (.int t))) σ')
    (ko : ∀ r σ' m' m2, X = .ok r → N < m' + r.2.2 → p + 2 ≤ m2 → RS c l N r.2.1 r.2.2 σ' → RP p h nb σ' → RPF p h nb σ σ' → w_VectorSolverModel_term_142 Q (w_VectorSolverModel_term_19 Q m') m2 0 (nI r.1) 1 σ')
    {B1 : Bk} {σ1 : xS} {m1 : Nat} {t1 : Int32} (g1 : gB B1) (x1 : bex B B1) (S1 : RS c l N B1 i σ1) (P1 : RP (p + 1) h (nb + m) σ1) (E1 : RE c l N (EE P nb E true) (LL nb p Lt) (p + 1) (nb + m) σ1) (h70 : xi σ1 70 p = nI 2) (hE0 : RE c l N E Lt p nb σ1) (hw : ∀ e ∈ nvl c l P m, e.2 < bma B1) (h16 : nb + m ≤ 16) (F1 : RPF p h nb σ σ1) (od1 : 70060 ≤ od c l i + n) (hm : N + 1 < m1 + i)
    (hx : X = eb (pTm c l n (nvl c l P m ++ vsl c l E nb) (nb + m) B1 i) fun r => eb (pX c l (r.2.2 + 1) 1) fun _ => .ok (r.1, r.2.1, r.2.2 + 1)) : w_VectorSolverModel_term_19 Q m1 0 t1 σ1 := by
  have ev : vsl c l (EE P nb E true) (nb + m) = nvl c l P m ++ vsl c l E nb := vsl_t m
  have hw' : ∀ e ∈ nvl c l P m ++ vsl c l E nb, e.2 < bma B1 := fun e he => by
    rcases List.mem_append.mp he with z | z
    · exact hw e z
    · exact Nat.lt_of_lt_of_le (hv e z) x1.ma
  refine hT Q σ1 B1 (p + 1) h (nb + m) i (EE P nb E true) (LL nb p Lt) m1 t1 g1 S1 P1 E1 (by rw [ev]; exact hw') h16 (by omega) (by omega) od1 hm (fun e σ' t he f => ?_) (fun r s2 m' m2 hr hm' hm2 S2 P2 F2 => ?_)
  · rw [ev] at he
    exact kf e σ' t (hx.trans (eb_er he)) (RFl.pre F1.1 x1 f)
  rw [ev] at hr
  obtain ⟨m3, rfl⟩ : ∃ m3, m2 = m3 + 1 := ⟨m2 - 1, by omega⟩
  obtain ⟨o1, o2, o3, o4, o5, o6⟩ := pTm_ok H n _ _ _ i _ h16 g1 hw' S1.2.2.2.2.2.2.1 hr
  rw [eb_ok hr] at hx
  have F12 : RPF p h nb σ s2 := F1.trans (F2.le (by omega) (Nat.le_refl _) (by omega))
  have E2 := E1.keep F2
  have E02 := hE0.keep (F2.le (by omega) (Nat.le_refl _) (by omega) : RPF p h nb σ1 s2)
  have h70' : xi s2 70 p = nI 2 := (F2.2.1 70 p (by decide) (by decide) (by omega)).trans h70
  refine B_go (p := p) S2.2.2.2.1 P2.1 (by omega) ?_
  refine r_goL (nb := nb) (nb' := nb + m) (t := r.1) H S2 o5 P2 h70' (by omega) (by omega) h16 (fun b q1 q2 => ?_) (fun b hb => ?_) (fun e σ' he f => ?_) (fun s3 h3 S3 P3 o3' => ?_)
  · have := (E2 b q2).2.2.1
    rw [LL_ge (by omega)] at this
    exact this
  · have := E02 b (by omega)
    exact ⟨Lt b, this.2.2.1, this.2.2.2.1⟩
  · exact gQ0 (fx142 f.X (fx19 f.X (kf e σ' _ (hx.trans (eb_er he)) (RFl.pre F12.1 (x1.trans o2.1) f)) (by omega)) (by omega))
  · rw [eb_ok h3] at hx
    have F3 : RPF p h nb s2 s3 := o3'.P (fun b hb => jR_rcl b (by revert b; decide))
    refine gQl P3.1 (by omega) ((o3'.ne (by decide)).trans h70') ?_
    exact ko (r.1, r.2.1, r.2.2 + 1) s3 m' m3 hx (by dsimp only; omega) (by omega) S3 P3 (F12.trans F3)
theorem r_bnds (H : okN c l N) (hT : rT c l N n) (hLt : ∀ b, b < nb → Lt b < p) (hv : ∀ e ∈ vsl c l E nb, e.2 < bma B) (hpn : p + 1 + n ≤ 60) (hh : h ≤ 40 * p) (D : Nat) (hD : 70060 ≤ D + n)
    (X : PE (Nat × Bk × Nat)) (kf : ∀ e σ' t, X = .error e → RFl B e σ σ' → Q (.inl (some (.int t))) σ')
    (ko : ∀ r σ' m' m2, X = .ok r → N < m' + r.2.2 → p + 2 ≤ m2 → RS c l N r.2.1 r.2.2 σ' → RP p h nb σ' → RPF p h nb σ σ' → w_VectorSolverModel_term_142 Q (w_VectorSolverModel_term_19 Q m') m2 0 (nI r.1) 1 σ') :
    ∀ mm cnt P B1 i1 σ1 m1 t1, gB B1 → bex B B1 → RS c l N B1 (i1 + 2) σ1 → tK c l (i1 + 1) = 5 → RP (p + 1) h (nb + cnt + 1) σ1 → (∀ t, RE c l N (EE (fun k => if k = cnt then (i1 + 1, t) else P k) nb E false) (LL nb p Lt) (p + 1) (nb + cnt + 1) σ1) → (∀ k, k < cnt → xi σ1 78 (nb + k) = nI (P k).2) → xi σ1 70 p = nI 1 → RE c l N E Lt p nb σ1 → nb + cnt < 16 → (∀ e ∈ nvl c l P cnt, e.2 < bma B1) → RPF p h nb σ σ1 → od c l (i1 + 1) = D + 2 → N + 1 < m1 + (i1 + 2) → cnt + mm = 16 →
      X = eb (eb (pTm c l n (vsl c l E nb) (nb + cnt + 1) B1 (i1 + 2)) fun r => eb (pX c l (r.2.2 + 1) 1) fun _ => if tK c l (r.2.2 + 2) = 0 then pBs c l (pTm c l n) (vsl c l E nb) nb mm r.2.1 (r.2.2 + 2) ((tW c l (i1 + 1), r.1) :: nvl c l P cnt) else .ok (r.2.1, r.2.2 + 2, (tW c l (i1 + 1), r.1) :: nvl c l P cnt)) (pLb c l n (vsl c l E nb) nb) → w_VectorSolverModel_term_19 Q m1 0 t1 σ1 := by
  intro mm
  induction mm with
  | zero => intro cnt P B1 i1 σ1 m1 t1 _ _ _ _ _ _ _ _ _ h16 _ _ _ _ h17; omega
  | succ mm ih =>
    intro cnt P B1 i1 σ1 m1 t1 g1 x1 S1 k5 P1 E1 h78 h70 hE0 h16 hw F1 od1 hm h17 hx
    have hv1 : ∀ e ∈ vsl c l E nb, e.2 < bma B1 := fun e he => Nat.lt_of_lt_of_le (hv e he) x1.ma
    have t5 := (tok_2 (c := c) (l := l) (i := i1 + 1) (by omega) (by omega)).2.1
    rw [show i1 + 1 + 1 = i1 + 2 by omega] at t5
    have ev : ∀ t, vsl c l (EE (fun k => if k = cnt then (i1 + 1, t) else P k) nb E false) (nb + cnt + 1) = vsl c l E nb := fun t => vsl_f (cnt + 1)
    refine hT Q σ1 B1 (p + 1) h (nb + cnt + 1) (i1 + 2) (EE (fun k => if k = cnt then (i1 + 1, 0) else P k) nb E false) (LL nb p Lt) m1 t1 g1 S1 P1 (E1 0) (by rw [ev]; exact hv1) (by omega) (by omega) (by omega) (by omega) hm (fun e σ' t he f => ?_) (fun r s2 m' m2 hr hm' hm2 S2 P2 F2 => ?_)
    · rw [ev] at he
      exact kf e σ' t (hx.trans (eb_er (eb_er he))) (RFl.pre F1.1 x1 f)
    rw [ev] at hr
    obtain ⟨m3, rfl⟩ : ∃ m3, m2 = m3 + 1 := ⟨m2 - 1, by omega⟩
    obtain ⟨o1, o2, o3, o4, o5, o6⟩ := pTm_ok H n _ _ _ (i1 + 2) _ (by omega) g1 hv1 S1.2.2.2.2.2.2.1 hr
    rw [eb_ok hr] at hx
    have x2 : bex B r.2.1 := x1.trans o2.1
    have F12 : RPF p h nb σ s2 := F1.trans (F2.le (by omega) (Nat.le_refl _) (by omega))
    have h70' : xi s2 70 p = nI 1 := (F2.2.1 70 p (by decide) (by decide) (by omega)).trans h70
    have E2 : RE c l N (EE (fun k => if k = cnt then (i1 + 1, r.1) else P k) nb E false) (LL nb p Lt) (p + 1) (nb + cnt + 1) s2 := (E1 r.1).keep F2
    have hE2 := hE0.keep (F2.le (by omega) (Nat.le_refl _) (by omega) : RPF p h nb σ1 s2)
    have en : nvl c l (fun k => if k = cnt then (i1 + 1, r.1) else P k) (cnt + 1) = (tW c l (i1 + 1), r.1) :: nvl c l P cnt := by
      show (tW c l (if cnt = cnt then (i1 + 1, r.1) else P cnt).1, (if cnt = cnt then (i1 + 1, r.1) else P cnt).2) :: nvl c l _ cnt = _
      rw [if_pos rfl, nvl_cg cnt (fun k hk => if_neg (by omega))]
    have hw' : ∀ e ∈ nvl c l (fun k => if k = cnt then (i1 + 1, r.1) else P k) (cnt + 1), e.2 < bma r.2.1 := fun e he => by
      rw [en] at he
      rcases List.mem_cons.mp he with z | z
      · rw [z]; exact o3
      · exact Nat.lt_of_lt_of_le (hw e z) o2.ma
    rw [← en] at hx
    have fq : ∀ e σ', X = .error e → RFl r.2.1 e s2 σ' → gQ Q (w_VectorSolverModel_term_142 Q (w_VectorSolverModel_term_19 Q m') m3) (nI r.1) (.inl (some (.int 0))) σ' := fun e σ' he f => gQ0 (fx142 f.X (fx19 f.X (kf e σ' _ he (RFl.pre F12.1 x2 f)) (by omega)) (by omega))
    -- the new words as they stand once the term is laid
    have mk78 : ∀ s3 z, SG p (nb + cnt) r.1 z s2 s3 → ∀ k, k < cnt + 1 → xi s3 78 (nb + k) = nI ((fun k => if k = cnt then (i1 + 1, r.1) else P k) k).2 := fun s3 z G k hk => by
      by_cases q : k = cnt
      · rw [q]; dsimp only; rw [if_pos rfl]; exact G.1
      · dsimp only
        rw [if_neg q, G.2.2.1 78 _ (by omega) (by omega) (by omega), F2.2.2.2 78 _ (by decide) (by decide) (by omega)]
        exact h78 k (by omega)
    refine B_go (p := p) S2.2.2.2.1 P2.1 (by omega) ?_
    refine r_goS (nb := nb + cnt) (t := r.1) H S2 o5 P2 h70' (by omega) h16 (fun e σ' he f => ?_) (fun h3 z s3 S3 G3 => ?_) (fun h3 z s3 S3 G3 => ?_)
    · refine fq e σ' (hx.trans ?_) f
      rcases he with he | ⟨h1, z0, he⟩ | ⟨h1, z1, z2, he⟩
      · rw [eb_er he]; rfl
      · rw [eb_ok h1, if_neg z0]
        show pLb c l n (vsl c l E nb) nb (r.2.1, r.2.2 + 2, nvl c l (fun k => if k = cnt then (i1 + 1, r.1) else P k) (cnt + 1)) = _
        unfold pLb
        exact eb_er he
      · rw [eb_ok h1, if_neg (by omega)]
        have hp : pX c l (r.2.2 + 2) 1 = .ok () := if_pos z1
        show pLb c l n (vsl c l E nb) nb (r.2.1, r.2.2 + 2, nvl c l (fun k => if k = cnt then (i1 + 1, r.1) else P k) (cnt + 1)) = _
        unfold pLb
        dsimp only
        rw [eb_ok hp, eb_er (pTm_bad z2), he]
    · -- a further binding
      rw [eb_ok h3, if_pos z] at hx
      have k3 := pX_i h3
      have b3 := H.lt (i := r.2.2 + 1) o5 (by omega)
      have t3 := H.t1 (i := r.2.2 + 1) o5 k3
      rw [show r.2.2 + 1 + 1 = r.2.2 + 2 by omega] at t3
      have bz := H.lt (i := r.2.2 + 2) S3.2.2.2.2.2.2.1 (by omega)
      have tz := (tok_0 z).1
      rw [show r.2.2 + 2 + 1 = r.2.2 + 3 by omega] at tz
      have F3' : RPF (p + 1) h (nb + cnt) s2 s3 := ⟨G3.S, fun a b q1 q2 q3 => G3.2.2.1 a b (by omega) (by omega) (fun w => by cases w.1), fun b q => G3.2.2.1 76 b (by omega) (by omega) (fun w => by cases w.1), fun a b q1 q2 q3 => G3.2.2.1 a b (by omega) (by omega) (fun w => by cases w.1)⟩
      have P3 : RP (p + 1) h (nb + (cnt + 1)) s3 := ⟨(G3.2.2.1 50 29 (by omega) (by omega) (by omega)).trans P2.1, (G3.2.2.1 50 36 (by omega) (by omega) (by omega)).trans P2.2.1, (G3.2.2.1 50 38 (by omega) (by omega) (by omega)).trans P2.2.2⟩
      have h70s : xi s3 70 p = nI 1 := (G3.2.2.1 70 p (by omega) (by omega) (fun w => by cases w.1)).trans h70'
      have E3 : RE c l N (EE (fun k => if k = cnt then (i1 + 1, r.1) else P k) nb E false) (LL nb p Lt) (p + 1) (nb + (cnt + 1)) s3 := fun b hb => by
        obtain ⟨e1, e2, e3, e4, e5, e6⟩ := E2 b hb
        refine ⟨e1, (G3.2.2.1 77 b (by omega) (by omega) (by omega)).trans e2, (G3.2.2.1 79 b (by omega) (by omega) (by omega)).trans e3, e4, (G3.2.2.1 70 _ (by omega) (by omega) (fun w => by cases w.1)).trans e5, fun q => ?_⟩
        by_cases y : b < nb
        · exact (G3.2.2.1 78 b (by omega) (by omega) (by omega)).trans (e6 q)
        · obtain ⟨d, rfl⟩ : ∃ d, b = nb + d := ⟨b - nb, by omega⟩
          rw [EE_ge] at q
          cases q
      have L3 : RL c l N (fun k => if k = cnt then (i1 + 1, r.1) else P k) nb E Lt p (cnt + 1) s3 := ⟨E3, mk78 s3 false G3, hLt, h70s⟩
      have ux : ∀ new, new.length = cnt + 1 → pBs c l (pTm c l n) (vsl c l E nb) nb (mm + 1) r.2.1 (r.2.2 + 2) new = eb (pX c l (r.2.2 + 2 + 1) 5) fun _ => if tR c l (r.2.2 + 2 + 1) ≠ none ∨ vlk new (tW c l (r.2.2 + 2 + 1)) ≠ none then .error (6, tF c l (r.2.2 + 2 + 1)) else if 16 ≤ nb + (cnt + 1) then .error (11, tF c l (r.2.2 + 2 + 1)) else eb (pTm c l n (vsl c l E nb) (nb + (cnt + 1) + 1) r.2.1 (r.2.2 + 2 + 2)) fun r' => eb (pX c l (r'.2.2 + 1) 1) fun _ => if tK c l (r'.2.2 + 2) = 0 then pBs c l (pTm c l n) (vsl c l E nb) nb mm r'.2.1 (r'.2.2 + 2) ((tW c l (r.2.2 + 2 + 1), r'.1) :: new) else .ok (r'.2.1, r'.2.2 + 2, (tW c l (r.2.2 + 2 + 1), r'.1) :: new) := fun new hl => by rw [← hl]; rfl
      have uy := ux _ (nvl_len (c := c) (l := l) (P := fun k => if k = cnt then (i1 + 1, r.1) else P k) (cnt + 1))
      refine r_bind (h := h) (m := cnt + 1) (P := fun k => if k = cnt then (i1 + 1, r.1) else P k) H S3 bz L3 P3 (by omega) (by omega) _ _ uy (fun e σ' he f => ?_) (fun s4 hK k5' hlt S4 P4 F4 E4 => ?_)
      · rw [xqv_v]
        refine n_next f.X ?_
        rw [xqv_v]
        exact fq e σ' (hx.trans (eb_er he)) (RFl.pre G3.S (bex.refl _) f)
      · rw [xqv_v]
        rw [hK] at hx
        have b4 := H.lt (i := r.2.2 + 2 + 1) S4.2.2.2.2.2.2.1 (by omega)
        refine r_next H (S4.n b4) (fun σ' y f => ?_) (fun s5 S5 o5' => ?_)
        · rw [xqv_v]
          have y : 16 ≤ tK c l (r.2.2 + 2 + 2) := y
          exact fq _ σ' (hx.trans (eb_er (eb_er (pTm_bad y)))) (RFl.pre (G3.S.trans F4.1) (bex.refl _) f)
        · rw [xqv_v]
          have S5 : RS c l N r.2.1 (r.2.2 + 2 + 2) s5 := S5
          have F5 : ∀ a b d, RPF a b d s4 s5 := fun a b d => o5'.P10
          refine gQ0 (ex142 S5.2.2.2.1 ?_ (by omega))
          refine ih (cnt + 1) (fun k => if k = cnt then (i1 + 1, r.1) else P k) r.2.1 (r.2.2 + 2) s5 m' _ o1 x2 S5 k5' (P4.e o5' (by decide)) (fun t => (E4 t).keep (F5 _ h _)) (fun k hk => ?_) ?_ ?_ (by omega) hw' ?_ ?_ (by omega) (by omega) hx
          · rw [(F5 0 0 (nb + (cnt + 1))).2.2.2 78 _ (by decide) (by decide) (by omega), F4.2.2.2 78 _ (by decide) (by decide) (by omega)]
            exact mk78 s3 false G3 k hk
          · rw [o5'.ne (by decide), F4.2.1 70 p (by decide) (by decide) (by omega)]
            exact h70s
          · exact ((hE2.keep (F3'.le (by omega) (Nat.le_refl _) (by omega) : RPF p h nb s2 s3)).keep (F4.le (by omega) (Nat.le_refl _) (by omega) : RPF p h nb s3 s4)).keep (F5 p h nb)
          · exact (F12.trans (F3'.le (by omega) (Nat.le_refl _) (by omega))).trans ((F4.le (by omega) (Nat.le_refl _) (by omega)).trans (F5 _ _ _))
          · show od c l (r.2.2 + 3) = D + 2
            omega
    · -- the body
      rw [eb_ok h3, if_neg (by omega)] at hx
      have k3 := pX_i h3
      have b3 := H.lt (i := r.2.2 + 1) o5 (by omega)
      have t3 := H.t1 (i := r.2.2 + 1) o5 k3
      rw [show r.2.2 + 1 + 1 = r.2.2 + 2 by omega] at t3
      have t4 := H.t1 (i := r.2.2 + 2) b3 z
      rw [show r.2.2 + 2 + 1 = r.2.2 + 3 by omega] at t4
      have hp : pX c l (r.2.2 + 2) 1 = .ok () := if_pos z
      have ub : pLb c l n (vsl c l E nb) nb (r.2.1, r.2.2 + 2, nvl c l (fun k => if k = cnt then (i1 + 1, r.1) else P k) (cnt + 1)) = eb (pTm c l n (nvl c l (fun k => if k = cnt then (i1 + 1, r.1) else P k) (cnt + 1) ++ vsl c l E nb) (nb + (cnt + 1)) r.2.1 (r.2.2 + 3)) fun r => eb (pX c l (r.2.2 + 1) 1) fun _ => .ok (r.1, r.2.1, r.2.2 + 1) := by
        unfold pLb
        dsimp only
        rw [eb_ok hp, nvl_len]
      have hx := hx.trans ub
      have F3 : RPF p h nb s2 s3 := ⟨G3.S, fun a b q1 q2 q3 => G3.2.2.1 a b (by omega) (by omega) (by omega), fun b q => G3.2.2.1 76 b (by omega) (by omega) (by omega), fun a b q1 q2 q3 => G3.2.2.1 a b (by omega) (by omega) (by omega)⟩
      have E3 : RE c l N (EE (fun k => if k = cnt then (i1 + 1, r.1) else P k) nb E true) (LL nb p Lt) (p + 1) (nb + (cnt + 1)) s3 := fun b hb => by
        obtain ⟨e1, e2, e3, e4, e5, e6⟩ := E2 b hb
        by_cases y : b < nb
        · obtain ⟨f1, f2, f3, f4, f5, f6⟩ := hE2.keep F3 b y
          rw [EE_lt y, LL_lt y]
          exact ⟨f1, f2, f3, by omega, f5, f6⟩
        · obtain ⟨d, rfl⟩ : ∃ d, b = nb + d := ⟨b - nb, by omega⟩
          rw [EE_ge] at e1 e2 e5 e6 ⊢
          rw [LL_ge y] at e3 ⊢
          refine ⟨e1, (G3.2.2.1 77 _ (by omega) (by omega) (by omega)).trans e2, (G3.2.2.1 79 _ (by omega) (by omega) (by omega)).trans e3, by omega, ?_, fun _ => mk78 s3 true G3 d (by omega)⟩
          rw [if_pos rfl]
          exact G3.2.1 rfl
      refine gQ0 (ex142 S3.2.2.2.1 ?_ (by omega))
      refine r_body (nb := nb) (m := cnt + 1) (P := fun k => if k = cnt then (i1 + 1, r.1) else P k) H hT hLt hv (by omega) hpn hh X kf ko o1 x2 S3 ⟨(G3.2.2.1 50 29 (by omega) (by omega) (by omega)).trans P2.1, (G3.2.2.1 50 36 (by omega) (by omega) (by omega)).trans P2.2.1, (G3.2.2.1 50 38 (by omega) (by omega) (by omega)).trans P2.2.2⟩ E3 (G3.2.1 rfl) (hE2.keep F3) hw' (by omega) (F12.trans F3) (by omega) (by omega) hx
end RTM
