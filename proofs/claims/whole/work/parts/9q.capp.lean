/-! THE CLASS READS: applications -/
section CAPP
variable {c : Nat → Nat} {l N : Nat} {B : Bk} {top base nb i j : Nat} {σ σ' : xS} {Q : xO → xS → Prop} {E : Nat → Nat × Nat × Bool}
def vT (c : Nat → Nat) (l N n : Nat) : Prop := ∀ (Q : xO → xS → Prop) (σ : xS) (B : Bk) (top nb i : Nat) (E : Nat → Nat × Nat × Bool), gB B → CS c l N B top nb i σ → BD c l N E nb σ → (∀ e ∈ vsl c l E nb, e.2 < bma B) → nb ≤ 16 → top ≤ 40 * (60 - n) → n ≤ 60 → 70060 ≤ od c l i + n → (∀ e σ', pTm c l n (vsl c l E nb) nb B i = .error e → FL B e σ σ' → Q (.inr 0) σ') → (∀ r σ', pTm c l n (vsl c l E nb) nb B i = .ok r → CS c l N r.2.1 top nb r.2.2 σ' → FR top nb σ σ' → Q (.inl (some (.int (nI r.1)))) σ') → wp_Reader_term (n + 1) Q σ
/-- a change of the reader's own cells -/
theorem CS.rd {top' nb' : Nat} (S : CS c l N B top nb i σ) (h : ∀ a b, ¬ (24 ≤ a ∧ a ≤ 29) → xi σ' a b = xi σ a b) (hl : ∀ a b, xl σ' a b = xl σ a b) (hx : xb σ' = xb σ) (h4 : xi σ' 24 4 = nI top') (h9 : xi σ' 24 9 = nI nb') : CS c l N B top' nb' i σ' := by
  obtain ⟨⟨t1, t2, t3, t4⟩, p, d, e, f, g, hxx, hi, c1, c2, c3, c4⟩ := S
  exact ⟨⟨(h 1 1 (by omega)).trans t1, t2, fun k hk => ⟨(t3 k hk).1, (h 2 k (by omega)).trans (t3 k hk).2⟩, fun n hn => (h 4 n (by omega)).trans (t4 n hn)⟩, ⟨fun k hk => (hl 3 k).trans (p.1 k hk), (h 1 5 (by omega)).trans p.2⟩, d.keep (fun k j q1 q2 => h k j (by omega)) (fun k j _ _ => hl k j), (h 1 6 (by omega)).trans e, h4, h9, by rw [hx]; exact hxx, hi, (h 1 9 (by omega)).trans c1, (h 1 10 (by omega)).trans c2, (h 1 11 (by omega)).trans c3, (h 1 12 (by omega)).trans c4⟩
theorem v_args {n beg : Nat} (H : okN c l N) (hT : vT c l N n) (S : CS0 c l N B base nb j σ) (g : gB B) (hE : BD c l N E nb σ) (hv : ∀ e ∈ vsl c l E nb, e.2 < bma B) (hn : nb ≤ 16) (hb : base + 40 ≤ 40 * (60 - n)) (h60 : n ≤ 60) (ho : 70060 ≤ od c l j + n)
    (kf : ∀ e σ', pAr c l (pTm c l n) (vsl c l E nb) nb beg 40 B j [] = .error e → FL B e σ σ' → Q (.inr 0) σ')
    (ko : ∀ r σ', pAr c l (pTm c l n) (vsl c l E nb) nb beg 40 B j [] = .ok r → CS c l N r.1 (base + r.2.2.length) nb r.2.1 σ' → SK σ' base r.2.2 → FR base nb σ σ' → Q (.inl none) σ') : wp_Reader_readArguments (wp_Reader_term (n + 1)) Q σ (nI beg) := by
  obtain ⟨X, hX⟩ : ∃ X, X = pAr c l (pTm c l n) (vsl c l E nb) nb beg 40 B j [] := ⟨_, rfl⟩
  rw [← hX] at kf ko
  have key : ∀ m B1 i as σ1, gB B1 → bex B B1 → CS c l N B1 (base + as.length) nb i σ1 → SK σ1 base as → FR base nb σ σ1 → as.length + m = 40 → 70060 ≤ od c l i + n → X = pAr c l (pTm c l n) (vsl c l E nb) nb beg m B1 i as → w_Reader_readArguments_9 (wp_Reader_term (n + 1)) Q (m + 1) (nI beg) (nI as.length) σ1 := by
    intro m
    induction m with
    | zero =>
      intro B1 i as σ1 g1 x1 S1 sk F1 hl od1 hx
      have t3 : tK c l i < 256 := (tok_ok (c := c) (j := i) H.2.1).2.2.1
      have ca := S1.2.2.2.2.2.2.2.2
      unfold pAr at hx
      unfold w_Reader_readArguments_9
      rw [show (40 : Int32) = nI 40 from rfl, nI_ltI (by decide) (by omega), ca.1, show (1 : Int32) = nI 1 from rfl, nI_eq (by omega) (by decide)]
      refine ⟨fun z => absurd z (by omega), fun _ => ⟨fun z => ?_, fun z => ?_⟩⟩
      · rw [if_pos z] at hx
        exact ko (B1, i, as) σ1 hx S1 sk F1
      · rw [if_neg z] at hx
        refine hT _ _ B1 (base + as.length) nb i E g1 S1 (hE.keep F1) (fun e he => Nat.lt_of_lt_of_le (hv e he) x1.ma) hn (by omega) h60 od1 (fun e σ' h f => ?_) (fun r σ' h S' F' => ?_)
        · rw [xqi_e]
          exact kf e σ' (hx.trans (eb_er h)) (FL.pre F1 x1 f)
        · rw [xqi_i, nI_eq (by omega) (by decide)]
          have okp := pTm_ok H n _ _ _ i _ hn g1 (fun e he => Nat.lt_of_lt_of_le (hv e he) x1.ma) S1.2.2.2.2.2.2.2.1 h
          refine ⟨fun _ => ?_, fun q => absurd (by omega) q⟩
          unfold w_Reader_readArguments_49
          refine v_fail (ek := 11) (ep := beg) S'.2.2.1 S'.2.2.2.2.2.2.1 rfl rfl (fun σ2 f => ?_)
          rw [xqi_e]
          exact kf _ σ2 (hx.trans (eb_ok h)) (FL.pre (F1.trans (F'.le (by omega) (Nat.le_refl _))) (x1.trans okp.2.1.1) f)
    | succ m ih =>
      intro B1 i as σ1 g1 x1 S1 sk F1 hl od1 hx
      have t3 : tK c l i < 256 := (tok_ok (c := c) (j := i) H.2.1).2.2.1
      have ca := S1.2.2.2.2.2.2.2.2
      unfold pAr at hx
      unfold w_Reader_readArguments_9
      rw [show (40 : Int32) = nI 40 from rfl, nI_ltI (by decide) (by omega), ca.1, show (1 : Int32) = nI 1 from rfl, nI_eq (by omega) (by decide)]
      refine ⟨fun z => absurd z (by omega), fun _ => ⟨fun z => ?_, fun z => ?_⟩⟩
      · rw [if_pos z] at hx
        exact ko (B1, i, as) σ1 hx S1 sk F1
      · rw [if_neg z] at hx
        refine hT _ _ B1 (base + as.length) nb i E g1 S1 (hE.keep F1) (fun e he => Nat.lt_of_lt_of_le (hv e he) x1.ma) hn (by omega) h60 od1 (fun e σ' h f => ?_) (fun r σ' h S' F' => ?_)
        · rw [xqi_e]
          exact kf e σ' (hx.trans (eb_er h)) (FL.pre F1 x1 f)
        · rw [xqi_i, nI_eq (by omega) (by decide)]
          obtain ⟨o1, o2, o3, o4, o5, o6⟩ := pTm_ok H n _ _ _ i _ hn g1 (fun e he => Nat.lt_of_lt_of_le (hv e he) x1.ma) S1.2.2.2.2.2.2.2.1 h
          rw [eb_ok h] at hx
          refine ⟨fun q => absurd q (by omega), fun _ => ?_⟩
          have tp := S'.2.2.2.2.1
          rw [tp, nI_clamp (n := base + as.length) (by omega)]
          refine ⟨fun _ => ⟨vp_in_nI (by omega) (by decide), fun s7 e7 s8 e8 => ?_⟩, fun q => absurd ((nI_ltI (a := base + as.length) (b := 2400) (by omega) (by decide)).mpr (by omega)) q⟩
          have tp7 : xi s7 24 4 = nI (base + as.length) := by rw [e7, xi_pi, if_neg (by omega)]; exact tp
          rw [tp7, nI_add] at e8
          have ch : ∀ a b, ¬ (a = 25 ∧ b = base + as.length) → ¬ (a = 24 ∧ b = 4) → xi s8 a b = xi σ' a b := fun a b q1 q2 => by rw [e8, xi_pi, if_neg q2, e7, xi_pi, if_neg q1]
          have chl : ∀ a b, xl s8 a b = xl σ' a b := fun a b => by rw [e8, xl_pi, e7, xl_pi]
          have S8 : CS c l N r.2.1 (base + (as ++ [r.1]).length) nb r.2.2 s8 := by
            refine S'.rd (fun a b q => ch a b (by omega) (by omega)) chl (by rw [e8, e7]; rfl) ?_ ?_
            · rw [e8, xi_pi, if_pos ⟨rfl, rfl⟩, List.length_append]; rfl
            · rw [ch 24 9 (by omega) (by omega)]; exact S'.2.2.2.2.2.1
          have F8 : FR base nb σ' s8 := ⟨⟨fun a b q => ch a b (fun z => q (.inr (.inr (by omega)))) (fun z => q (.inr (.inr (by omega)))), fun a b _ _ => chl a b⟩, fun k hk => ch 25 k (by omega) (by omega), fun a b q1 q2 q3 => ch a b (by omega) (by omega), by rw [e8, e7]; rfl⟩
          have sk8 : SK s8 base (as ++ [r.1]) := fun k hk => by
            rw [List.length_append, List.length_singleton] at hk
            by_cases q : k = as.length
            · rw [q, e8, xi_pi, if_neg (by omega), e7, xi_pi, if_pos ⟨rfl, rfl⟩, List.getD_eq_getElem?_getD, List.getElem?_append_right (Nat.le_refl _), Nat.sub_self]
              rfl
            · rw [ch 25 _ (by omega) (by omega), F'.2.1 _ (by omega), sk k (by omega), List.getD_eq_getElem?_getD, List.getD_eq_getElem?_getD, List.getElem?_append_left (by omega)]
          refine v_next H (S8.n o5) (fun s9 S9 o9 => ?_)
          rw [xqv_v]
          intro x11 e11
          rw [nI_add] at e11
          subst e11
          have el : as.length + 1 = (as ++ [r.1]).length := by rw [List.length_append]; rfl
          rw [el]
          exact ih r.2.1 (r.2.2 + 1) (as ++ [r.1]) s9 o1 (x1.trans o2.1) S9 (fun k hk => (o9.1 25 _ (fun z => absurd z.1 (by decide))).trans (sk8 k hk)) ((F1.trans (F'.le (by omega) (Nat.le_refl _))).trans (F8.trans (o9.F (by decide) (by decide)))) (by rw [← el]; omega) (by rw [o6]; exact od1) hx
  unfold wp_Reader_readArguments
  refine v_next H S (fun σ1 S1 o1 => ?_)
  rw [xqv_v]
  exact ⟨_, key 40 B j [] σ1 g (bex.refl _) S1 (fun k hk => absurd hk (by simp)) (o1.F (by decide) (by decide)) rfl ho hX⟩
theorem oG.F (h : oG σ σ') : FR top nb σ σ' := ⟨⟨fun a b q => h.1 a b (fun z => q (.inr (.inl z))) (fun z => q (.inr (.inr (by omega)))), h.2.1⟩, fun j _ => h.1 25 j (by omega) (by omega), fun a b q1 q2 _ => h.1 a b (by omega) (by omega), h.2.2⟩
theorem CS.og {B' : Bk} {top' : Nat} (S : CS c l N B top nb i σ) (o : oG σ σ') (R : RC B' σ') (h4 : xi σ' 24 4 = nI top') : CS c l N B' top' nb i σ' := by
  obtain ⟨⟨t1, t2, t3, t4⟩, b, d, e, f, g, h, hi, c1, c2, c3, c4⟩ := S
  have q : ∀ a b, ¬ (5 ≤ a ∧ a ≤ 22) → ¬ (a = 24 ∧ b = 4) → xi σ' a b = xi σ a b := o.1
  exact ⟨⟨(q 1 1 (by omega) (by omega)).trans t1, t2, fun k hk => ⟨(t3 k hk).1, (q 2 k (by omega) (by omega)).trans (t3 k hk).2⟩, fun n hn => (q 4 n (by omega) (by omega)).trans (t4 n hn)⟩, ⟨fun k hk => (o.2.1 3 k (by decide) (by decide)).trans (b.1 k hk), (q 1 5 (by omega) (by omega)).trans b.2⟩, R, (q 1 6 (by omega) (by omega)).trans e, h4, (q 24 9 (by omega) (by omega)).trans g, by rw [o.2.2]; exact h, hi, (q 1 9 (by omega) (by omega)).trans c1, (q 1 10 (by omega) (by omega)).trans c2, (q 1 11 (by omega) (by omega)).trans c3, (q 1 12 (by omega) (by omega)).trans c4⟩
def pBA (c : Nat → Nat) (l n : Nat) (vis : Vis) (nb beg : Nat) (B : Bk) (j op hi lo : Nat) : PE (Nat × Bk × Nat) := eb (pAr c l (pTm c l n) vis nb beg 40 B (j + 1) []) fun q => eb (pAp q.1 beg op hi lo q.2.2) fun r => .ok (r.1, r.2, q.2.1)
theorem v_app {n beg op hi lo : Nat} (H : okN c l N) (hT : vT c l N n) (S : CS c l N B base nb j σ) (hjN : j < N) (g : gB B) (hE : BD c l N E nb σ) (hv : ∀ e ∈ vsl c l E nb, e.2 < bma B) (hn : nb ≤ 16) (hb : base + 40 ≤ 40 * (60 - n)) (h60 : n ≤ 60) (ho : 70060 ≤ od c l (j + 1) + n) (h1 : 10 ≤ op) (h2 : op ≤ 46) (hlo : lo ≤ hi) (hhi : hi ≤ 2147483647) (hh : op ≤ 12 → xi σ 24 10 = nI hi ∧ xi σ 24 11 = nI lo)
    (kf : ∀ e σ', pBA c l n (vsl c l E nb) nb beg B j op hi lo = .error e → FL B e σ σ' → Q (.inr 0) σ')
    (ko : ∀ r σ', pBA c l n (vsl c l E nb) nb beg B j op hi lo = .ok r → CS c l N r.2.1 base nb r.2.2 σ' → FR base nb σ σ' → Q (.inl (some (.int (nI r.1)))) σ') : w_Reader_bracketTerm_53 (wp_Reader_term (n + 1)) Q (nI beg) (nI op) σ := by
  unfold w_Reader_bracketTerm_53
  intro x6 e6 x7 e7 x8 e8
  rw [S.2.2.2.2.1] at e8
  subst e8
  refine v_args (beg := beg) H hT (S.n hjN) g hE hv hn hb h60 ho (fun e σ' h f => ?_) (fun q σ1 hq S1 sk1 F1 => ?_)
  · rw [xqv_e]
    exact kf e σ' (eb_er h) f
  rw [xqv_v]
  have u : pBA c l n (vsl c l E nb) nb beg B j op hi lo = eb (pAp q.1 beg op hi lo q.2.2) fun r => .ok (r.1, r.2, q.2.1) := eb_ok hq
  obtain ⟨q1, q2, q3, q4, q5, q6, q7, q8⟩ := pAr_ok H (pTm_ok H n) hn 40 B (j + 1) [] q g hv hjN (fun a h => absurd h (by simp)) rfl hq
  obtain ⟨C, k, as⟩ := q
  dsimp only at *
  intro x11 e11
  rw [S1.2.2.2.2.1, nI_sub (by omega), Nat.add_sub_cancel_left] at e11
  subst e11
  have fp : ∀ (e : Nat × Nat) (σ2 σ' : xS), FR base nb σ1 σ2 → FL C e σ2 σ' → FL B e σ σ' := fun e σ2 σ' F2 f => FL.pre (F1.trans F2) q2.1 f
  refine v_fitM (by omega) (by omega) ?_
  rw [xqi_i]
  refine ⟨fun z s14 e14 s15 e15 => ?_, fun z => ?_⟩
  rotate_left
  · have z := (bI_0 _).mp z
    refine v_fail (ek := 8) (ep := beg) S1.2.2.1 S1.2.2.2.2.2.2.1 rfl rfl (fun σ' f => ?_)
    rw [xqi_e]
    refine kf _ σ' (u.trans (eb_er ?_)) (fp _ σ1 σ' (FR.refl _ _ _) f)
    unfold pAp
    rw [if_pos z]
  have fit : fitM op as.length = true := by cases e : fitM op as.length with
    | true => rfl
    | false => exact absurd ((bI_0 _).mpr e) z
  have n1 := (fitM_cs fit).2.2.2.2
  have S15 : CS c l N C (base + as.length) nb k s15 := by rw [e15, e14]; exact (S1.pi24 (.inl rfl)).pi24 (.inr rfl)
  have ch : ∀ a b, ¬ (a = 24 ∧ (b = 10 ∨ b = 11)) → xi s15 a b = xi σ1 a b := fun a b h => by rw [e15, xi_pi, if_neg (by omega), e14, xi_pi, if_neg (by omega)]
  have sk15 : SK s15 base as := fun m hm => (ch 25 _ (by omega)).trans (sk1 m hm)
  have F15 : FR base nb σ1 s15 := (oJ2.trans (by rw [e14]; exact oJ2.pi (.inl rfl) : oJ2 σ1 s14) (by rw [e15]; exact oJ2.pi (.inr rfl))).F
  have hh15 : op ≤ 12 → xi s15 24 10 = nI hi ∧ xi s15 24 11 = nI lo := fun h => by
    obtain ⟨y1, y2⟩ := hh h
    refine ⟨?_, ?_⟩
    · rw [e15, xi_pi, if_neg (by decide), e14, xi_pi, if_pos ⟨rfl, rfl⟩, e6]; exact y1
    · rw [e15, xi_pi, if_pos ⟨rfl, rfl⟩, e7]; exact y2
  have b24 : base + as.length ≤ 2400 := by omega
  refine v_sor (hi := hi) (lo := lo) S15.2.2.1 q1.1 sk15 S15.2.2.2.2.1 b24 q4 q3 fit h1 h2 (fun h => ⟨(hh15 h).1, (hh15 h).2, hhi, hlo⟩) ?_
  rw [xqi_i]
  cases es : sor op as.length (fun i => bso C (as.getD i 0)) hi lo with
  | none =>
    refine ⟨fun y => absurd rfl y, fun _ => ?_⟩
    refine v_fail (ek := 9) (ep := beg) S15.2.2.1 S15.2.2.2.2.2.2.1 rfl rfl (fun σ' f => ?_)
    rw [xqi_e]
    refine kf _ σ' (u.trans (eb_er ?_)) (fp _ s15 σ' F15 f)
    unfold pAp
    rw [if_neg (by rw [fit]; decide), es]
  | some so =>
    obtain ⟨ty1, ty2, ty3⟩ := typ_ap q1 q3 fit es h1 h2 hlo
    have so1 : so < 1024 := by unfold okS at ty2; omega
    have ne : ¬ supI (some so) = -1 := by
      show ¬ nI so = -1
      rw [nI_ne_m1 (by omega)]
      exact id
    refine ⟨fun _ => ?_, fun y => absurd y ne⟩
    show wp_Sorts_size _ s15 (nI so)
    refine p_size ty2 ?_
    have a0 := q3 _ (getD_mem (show 0 < as.length by omega))
    have ma := wf_ma q1.1
    have ok0 := wf_so q1.1 a0
    have sk0 : xi s15 25 base = nI (as.getD 0 0) := sk15 0 (by omega)
    rw [xqi_i, nI_clamp (n := base) (by omega), sk0, nI_clamp (n := as.getD 0 0) (by omega), rc_so S15.2.2.1 a0]
    refine ⟨vp_in_nI (by omega) (by decide), vp_in_nI (by omega) (by decide), ?_⟩
    refine p_size ok0 ?_
    rw [xqi_i]
    refine v_wgh (by omega) n1 ?_
    rw [xqi_i]
    have z0 := szs_le ok0
    have z1 := szs_le ty2
    have wl : wgh op (szs so) (szs (bso C (as.getD 0 0))) as.length < 1073741824 := wgh_lt z1.2 z0.2 q4 (fun h => by
      obtain ⟨-, -, -, -, -, -, -, -, c9⟩ := sor_cs es
      have e := c9 (by omega) (by omega)
      have e1 := e.1
      unfold okS at ok0
      rw [szs_v (by omega) (by omega)]
      omega)
    have ua : pAp C beg op hi lo as = pMk C beg op so (if op = 10 then lo else 0) 0#64 as (wgh op (szs so) (szs (bso C (as.getD 0 0))) as.length) := by
      unfold pAp
      rw [if_neg (by rw [fit]; decide), es]
    generalize wgh op (szs so) (szs (bso C (as.getD 0 0))) as.length = wt at wl ua ⊢
    refine v_make (beg := beg) (op := op) (so := so) (wt := wt) (bits := 0#64) S15.2.2.1 q1 S15.2.2.2.2.2.2.1 ty2 (by omega) wl rfl (fun e σ' h f => ?_) (fun σ3 m1 m2 R3 o3 => ?_)
    · rw [xqi_e]
      exact kf e σ' (u.trans (eb_er (ua.trans (pMk_er h)))) (fp _ s15 σ' F15 f)
    · rw [xqi_i]
      rw [pMk_ok m1 m2] at ua
      rw [eb_ok ua] at u
      have S3 := S15.bk o3 R3
      have gv : wp_Reader_giveArguments (xqv (fun u26 => Q (.inl (some (.int (nI (bma C))))) u26) (fun n u => Q (.inr n) u)) σ3 (nI (bma (wtB C (bwe C + wt)))) (nI base) := by
        refine v_give (as := as) (lo := lo) R3 (g_W q1 m2) (by rw [wB_m]; exact m1) (fun m hm => (o3.1 25 _ (by omega)).trans (sk15 m hm)) S3.2.2.2.2.1 b24 q4 (fun x hx => by rw [wB_m]; exact q3 x hx) (by omega) (fun h => ⟨(o3.1 24 11 (by omega)).trans (hh15 (by omega)).2, by omega⟩) (fun σ4 R4 h4 o4 => ?_)
        rw [xqv_v]
        exact ko _ σ4 u (S3.og o4 R4 h4) ((F1.trans F15).trans (o3.F.trans o4.F))
      rw [wB_m] at gv
      exact gv
end CAPP
