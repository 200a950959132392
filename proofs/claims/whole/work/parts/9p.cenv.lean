/-! THE CLASS READS: bound words, atoms -/
section ENV
variable (c : Nat → Nat) (l : Nat)
/-- bound words that show, the newest first; an entry: its token, its term, whether it shows -/
def vsl (E : Nat → Nat × Nat × Bool) : Nat → Vis
  | 0 => []
  | b + 1 => if (E b).2.2 = true then (tW c l (E b).1, (E b).2.1) :: vsl E b else vsl E b
def BD (N : Nat) (E : Nat → Nat × Nat × Bool) (nb : Nat) (σ : xS) : Prop := ∀ b, b < nb → tK c l (E b).1 = 5 ∧ (E b).1 < N ∧ xi σ 26 b = nI (tF c l (E b).1) ∧ xi σ 27 b = nI (tE c l (E b).1) ∧ xi σ 29 b = bI (E b).2.2 ∧ ((E b).2.2 = true → xi σ 28 b = nI (E b).2.1)
end ENV
section CENV
variable {c : Nat → Nat} {l N : Nat} {B : Bk} {top nb i j : Nat} {σ σ' : xS} {Q : xO → xS → Prop} {E : Nat → Nat × Nat × Bool}
theorem BD.keep (h : BD c l N E nb σ) (f : FR top nb σ σ') : BD c l N E nb σ' := fun b hb => by
  obtain ⟨h1, h2, h3, h4, h5, h6⟩ := h b hb
  exact ⟨h1, h2, (f.2.2.1 26 b (by decide) (by decide) hb).trans h3, (f.2.2.1 27 b (by decide) (by decide) hb).trans h4, (f.2.2.1 29 b (by decide) (by decide) hb).trans h5, fun q => (f.2.2.1 28 b (by decide) (by decide) hb).trans (h6 q)⟩
theorem FR.down {nb' : Nat} (f : FR top nb' σ σ') (h : nb ≤ nb') : FR top nb σ σ' := f.le (Nat.le_refl _) h
theorem v_symTerm (H : okN c l N) (g : gB B) (S : CS c l N B top nb i σ) (h5 : tK c l i = 5) (hE : BD c l N E nb σ) (hn : nb ≤ 16)
    (k1 : ∀ t, vlk (vsl c l E nb) (tW c l i) = some t → Q (.inl (some (.int (nI t)))) σ) (k2 : ∀ m, vlk (vsl c l E nb) (tW c l i) = none → fnm B (tW c l i) = some m → Q (.inl (some (.int (nI (B.1 18 m))))) σ) (k3 : ∀ σ', vlk (vsl c l E nb) (tW c l i) = none → fnm B (tW c l i) = none → FL B (5, tF c l i) σ σ' → Q (.inr 0) σ') : wp_Reader_symbolTerm Q σ := by
  have n5 := g.1.1.2.2.2.2.2.1
  have ca := S.2.2.2.2.2.2.2.2
  have key : ∀ b, b ≤ nb → vlk (vsl c l E nb) (tW c l i) = vlk (vsl c l E b) (tW c l i) → w_Reader_symbolTerm_7 Q (b + 1) (nI b - 1) σ := by
    intro b
    induction b with
    | zero =>
      intro hb hv
      unfold w_Reader_symbolTerm_7
      refine ⟨fun _ => ?_, fun n => absurd (by decide) n⟩
      refine v_findName H g S h5 ?_
      rw [xqi_i]
      cases e : fnm B (tW c l i) with
      | none =>
        refine ⟨fun z => absurd rfl z, fun _ => ?_⟩
        refine v_fail (ek := 5) (ep := tF c l i) S.2.2.1 S.2.2.2.2.2.2.1 rfl ca.2.1 (fun σ' f => ?_)
        rw [xqi_e]
        exact k3 σ' hv e f
      | some m =>
        have ml := (fnm_some e).1
        have ne : ¬ supI (some m) = -1 := by
          have : ∀ n, n < 500 → ¬ nI n = (-1 : Int32) := by decide +kernel
          exact this m (by omega)
        refine ⟨fun _ => ?_, fun z => absurd z ne⟩
        show vp_in (nI m) 500 ∧ Q (.inl (some (.int (xi σ 18 (nI m).toNatClampNeg)))) σ
        rw [nI_clamp (n := m) (by omega), rc_nt S.2.2.1 ml]
        exact ⟨vp_in_nI (by omega) (by decide), k2 m hv e⟩
    | succ b ih =>
      intro hb hv
      obtain ⟨e1, e2, e3, e4, e5, e6⟩ := hE b hb
      have t2 := tok_2 (c := c) (l := l) (i := (E b).1) (by omega) (by omega)
      have nx : ∀ x, x = nI b + (-1) → x = nI b - 1 := fun x hx => by rw [hx, Int32.sub_eq_add_neg]
      unfold w_Reader_symbolTerm_7
      rw [show (1 : Int32) = nI 1 from rfl, nI_sub (by omega), Nat.add_sub_cancel, nI_clamp (n := b) (by omega), e5, e3, e4]
      have vs : vsl c l E (b + 1) = if (E b).2.2 = true then (tW c l (E b).1, (E b).2.1) :: vsl c l E b else vsl c l E b := rfl
      rw [vs] at hv
      refine ⟨fun z => ?_, fun _ => ⟨vp_in_nI (by omega) (by decide), fun z x6 e6' => ?_, fun z => ⟨vp_in_nI (by omega) (by decide), vp_in_nI (by omega) (by decide), ?_⟩⟩⟩
      · rw [nI_lt0 (by omega)] at z
        exact absurd z id
      · have z := (bI_0 _).mp z
        rw [nx x6 e6']
        rw [if_neg (by rw [z]; decide)] at hv
        exact ih (by omega) hv
      · have zt : (E b).2.2 = true := by cases q : (E b).2.2 with
          | true => rfl
          | false => exact absurd ((bI_0 _).mpr q) z
        rw [if_pos zt] at hv
        refine v_isSame H S h5 (by omega) t2.2.2.2.2.1 ?_
        rw [xqi_i]
        refine ⟨fun y x9 e9 => ?_, fun y => ⟨vp_in_nI (by omega) (by decide), ?_⟩⟩
        · have y : ¬ tW c l (E b).1 = tW c l i := of_decide_eq_false ((bI_0 _).mp y)
          rw [nx x9 e9]
          refine ih (by omega) (hv.trans ?_)
          show vlk ((tW c l (E b).1, (E b).2.1) :: vsl c l E b) (tW c l i) = _
          rw [vlk, if_neg y]
        · have y : tW c l (E b).1 = tW c l i := by
            apply Classical.byContradiction
            intro n
            exact y ((bI_0 _).mpr (decide_eq_false n))
          rw [e6 zt]
          refine k1 _ (hv.trans ?_)
          show vlk ((tW c l (E b).1, (E b).2.1) :: vsl c l E b) (tW c l i) = _
          rw [vlk, if_pos y]
  unfold wp_Reader_symbolTerm
  rw [S.2.2.2.2.2.1]
  intro x1 ex
  subst ex
  exact ⟨_, key nb (Nat.le_refl _) rfl⟩
theorem wtx_drop2 {p q : Nat} : (wtx c p q).drop 2 = wtx c (p + 2) q := by
  rw [lst_eq]
  refine ⟨by rw [List.length_drop, wtx_len, wtx_len]; omega, fun i hi => ?_⟩
  rw [List.length_drop, wtx_len] at hi
  rw [wtx_at (by omega), List.getD_eq_getElem?_getD, List.getElem?_drop, ← List.getD_eq_getElem?_getD, wtx_at (by omega)]
  congr 1
  omega
def cstA (s : Nat) (ds : List Nat) : BitVec 64 := ds.foldl (fun (v : BitVec 64) (d : Nat) => (v <<< s) ||| BitVec.ofNat 64 ((dgv d).getD 0)) 0#64
theorem cstA_snoc (s : Nat) (ds : List Nat) (d : Nat) : cstA s (ds ++ [d]) = (cstA s ds <<< s) ||| BitVec.ofNat 64 ((dgv d).getD 0) := by
  unfold cstA
  rw [List.foldl_append]
  rfl
theorem v_const {s : Nat} (H : okN c l N) (S : CS c l N B top nb i σ) (h : tK c l i = 3 ∧ s = 1 ∨ tK c l i = 4 ∧ s = 4) (k : Q (.inl (some (.long (jL (cst s (tW c l i)))))) σ) : wp_Text_constant Q σ := by
  obtain ⟨a, b, R, e, f, g', hx, hi, c1, c2, c3, c4⟩ := S
  have t3 := tok_34 (c := c) (l := l) (i := i) (by omega)
  have t2 := tok_2 (c := c) (l := l) (i := i) (by omega) (by omega)
  have l1 := H.2.1
  have dg : ∀ k, tF c l i + 2 ≤ k → k < tE c l i → ∃ v, dgv (c k) = some v ∧ v < 16 := fun k k1 k2 => by
    have hd : ∃ bb, dlt (dgv (c k)) bb = true := by
      rcases h with h | h
      · exact ⟨2, of_decide_eq_true (t3.2.1 h.1).2 k k2 k1⟩
      · exact ⟨16, of_decide_eq_true (t3.2.2 h.1).2 k k2 k1⟩
    obtain ⟨bb, hd⟩ := hd
    cases q : dgv (c k) with
    | none => rw [q] at hd; cases hd
    | some v => exact ⟨v, rfl, dgv_lt q⟩
  have ec : cst s (tW c l i) = cstA s (wtx c (tF c l i + 2) (tE c l i)) := by
    unfold cst cstA tW
    rw [wtx_drop2]
  rw [ec] at k
  have hs64 : s < 64 := by omega
  have w13 : w_Text_constant_13 Q (nI s) σ := by
    unfold w_Text_constant_13
    rw [c2]
    intro x1 e1
    rw [show (2 : Int32) = nI 2 from rfl, nI_add] at e1
    subst e1
    have key := loop_i (σ := Unit) (fun m q _ => w_Text_constant_24 Q m (nI s) (jL (cstA s (wtx c (tF c l i + 2) q))) (nI q) σ) (fun q _ => tF c l i + 2 ≤ q) (tE c l i) (fun m _ hI => ?_) (fun m q _ hq hI hs => ?_)
    · have e0 : cstA s (wtx c (tF c l i + 2) (tF c l i + 2)) = 0#64 := by unfold wtx; rw [Nat.sub_self]; rfl
      have k0 := key (tE c l i + 1) (tF c l i + 2) () (by omega) (by omega) (Nat.le_refl _)
      rw [e0] at k0
      exact ⟨_, k0⟩
    · unfold w_Text_constant_24
      rw [c3]
      exact ⟨fun _ => k, fun z => absurd (Int32.le_refl _) z⟩
    · obtain ⟨v, hv, v1⟩ := dg q hI hq
      have bb := a.2.2.1 q (by omega)
      unfold w_Text_constant_24
      rw [c3, nI_leI (by omega) (by omega), nI_clamp (n := q) (by omega), bb.2]
      refine ⟨fun z => absurd z (by omega), fun _ => ⟨vp_in_nI (by omega) (by decide), ?_⟩⟩
      refine v_digit bb.1 ?_
      rw [xqi_i]
      intro x4 e4 x5 e5
      rw [hv, show supI (some v) = nI v from rfl, jL_i2l (by omega), jL_shl _ hs64, jL_or] at e4
      rw [show (1 : Int32) = nI 1 from rfl, nI_add] at e5
      have sn : cstA s (wtx c (tF c l i + 2) (q + 1)) = (cstA s (wtx c (tF c l i + 2) q) <<< s) ||| BitVec.ofNat 64 v := by
        rw [wtx_snoc hI, cstA_snoc, hv]
        rfl
      rw [← sn] at e4
      subst e4 e5
      exact hs () (by omega)
  unfold wp_Text_constant
  rw [c1, show (3 : Int32) = nI 3 from rfl, nI_eq (by omega) (by decide)]
  refine ⟨fun z => ?_, fun z => ?_⟩
  · rcases h with h | h
    · exact absurd h.1 z
    · rw [h.2] at w13; exact w13
  · rcases h with h | h
    · rw [h.2] at w13; exact w13
    · omega
theorem bI_1 : bI true = nI 1 := rfl
theorem v_atom {n : Nat} (H : okN c l N) (g : gB B) (S : CS c l N B top nb i σ) (hE : BD c l N E nb σ) (hn : nb ≤ 16) (k0 : tK c l i ≠ 0) (kf : ∀ e σ', pAt c l (vsl c l E nb) B i = .error e → FL B e σ σ' → Q (.inr 0) σ') (ko : ∀ r σ', pAt c l (vsl c l E nb) B i = .ok r → CS c l N r.2.1 top nb r.2.2 σ' → FR top nb σ σ' → Q (.inl (some (.int (nI r.1)))) σ') : wp_Reader_term (n + 1) Q σ := by
  have ca := S.2.2.2.2.2.2.2.2
  have t3 : tK c l i < 256 := (tok_ok (c := c) (j := i) H.2.1).2.2.1
  have l1 := H.2.1
  unfold wp_Reader_term
  rw [ca.1, ca.2.2.2, show (0 : Int32) = nI 0 from rfl, show (3 : Int32) = nI 3 from rfl, show (4 : Int32) = nI 4 from rfl, show (5 : Int32) = nI 5 from rfl, show (7 : Int32) = nI 7 from rfl, show (8 : Int32) = nI 8 from rfl, nI_eq (by omega) (by decide), nI_eq (by omega) (by decide), nI_eq (by omega) (by decide), nI_eq (by omega) (by decide), supI_eq (fun m h => tR_lt h) (by decide), supI_eq (fun m h => tR_lt h) (by decide)]
  refine ⟨fun z => absurd z k0, fun z => ?_, fun z => ?_, fun z => ?_⟩
  · have t34 := tok_34 z
    have ex : ∃ s, (tK c l i = 3 ∧ s = 1 ∨ tK c l i = 4 ∧ s = 4) := by
      rcases z with z | z
      · exact ⟨1, .inl ⟨z, rfl⟩⟩
      · exact ⟨4, .inr ⟨z, rfl⟩⟩
    obtain ⟨s, hs⟩ := ex
    have e2 : pAt c l (vsl c l E nb) B i = eb (pMk B (tF c l i) 48 (((tW c l i).length - 2) * s) 0 (cst s (tW c l i)) [] (((tW c l i).length - 2) * s)) fun r => .ok (r.1, r.2, i) := by
      unfold pAt
      rcases hs with hs | hs
      · rw [if_neg (by omega), if_pos hs.1, hs.2, Nat.mul_one]
      · rw [if_neg (by omega), if_neg (by omega), if_pos hs.1, hs.2]
    rw [tW_len] at e2
    have wd : wp_Text_constantWidth (xqi (fun r4 u3 => wp_Text_constant (xql (fun r6 u5 => wp_Reader_make (xqi (fun r8 u7 => Q (.inl (some (.int r8))) u7) (fun n u => Q (.inr n) u)) u5 (xi u3 1 10) 48 r4 r4 r6) (fun n u => Q (.inr n) u)) u3) (fun n u => Q (.inr n) u)) σ := by
      have fin : ∀ w : Nat, w = (tE c l i - tF c l i - 2) * s → xqi (fun r4 u3 => wp_Text_constant (xql (fun r6 u5 => wp_Reader_make (xqi (fun r8 u7 => Q (.inl (some (.int r8))) u7) (fun n u => Q (.inr n) u)) u5 (xi u3 1 10) 48 r4 r4 r6) (fun n u => Q (.inr n) u)) u3) (fun n u => Q (.inr n) u) (.inl (some (.int (nI w)))) σ := fun w hw => by
        rw [xqi_i]
        refine v_const H S hs ?_
        rw [xql_l, ca.2.1]
        have w64 : 1 ≤ w ∧ w ≤ 64 := by
          rcases hs with hs | hs
          · have := (t34.2.1 hs.1).1
            rw [hs.2] at hw; omega
          · have := (t34.2.2 hs.1).1
            rw [hs.2] at hw; omega
        rw [← hw] at e2
        refine v_make (beg := tF c l i) (op := 48) (so := w) (wt := w) S.2.2.1 g S.2.2.2.2.2.2.1 (by unfold okS; omega) (by decide) (by omega) rfl (fun e σ' h f => ?_) (fun σ3 m1 m2 R3 o3 => ?_)
        · rw [xqi_e]
          exact kf e σ' (e2.trans (eb_er h)) f
        · rw [xqi_i]
          exact ko _ σ3 (e2.trans (eb_ok (pMk_ok m1 m2))) (S.bk o3 R3) o3.F
      unfold wp_Text_constantWidth
      rw [ca.1, ca.2.1, ca.2.2.1, show (3 : Int32) = nI 3 from rfl, nI_eq (by omega) (by decide), nI_sub (by omega), show (2 : Int32) = nI 2 from rfl, nI_sub (by omega), show (4 : Int32) = nI 4 from rfl, show (1 : Int32) = nI 1 from rfl, nI_mul, nI_mul]
      refine ⟨fun y => fin _ ?_, fun y => fin _ ?_⟩
      · rcases hs with hs | hs
        · exact absurd hs.1 y
        · rw [hs.2]
      · rcases hs with hs | hs
        · rw [hs.2]
        · omega
    exact wd
  · have w68 : (tR c l i = some 7 ∨ tR c l i = some 8) → w_Reader_term_68 Q σ := fun y => by
      have e2 : pAt c l (vsl c l E nb) B i = eb (pMk B (tF c l i) 48 0 0 (if tR c l i = some 7 then 1#64 else 0#64) [] 1) fun r => .ok (r.1, r.2, i) := by
        unfold pAt
        rw [if_pos z, if_pos y]
      have w97 : ∀ (v : BitVec 64), v = (if tR c l i = some 7 then 1#64 else 0#64) → w_Reader_term_97 Q (xi σ 1 10) 48 0 1 (jL v) σ := fun v hv => by
        unfold w_Reader_term_97
        rw [ca.2.1]
        rw [← hv] at e2
        refine v_make (beg := tF c l i) (op := 48) (so := 0) (wt := 1) S.2.2.1 g S.2.2.2.2.2.2.1 (by unfold okS; omega) (by decide) (by decide) rfl (fun e σ' h f => ?_) (fun σ3 m1 m2 R3 o3 => ?_)
        · rw [xqi_e]
          exact kf e σ' (e2.trans (eb_er h)) f
        · rw [xqi_i]
          exact ko _ σ3 (e2.trans (eb_ok (pMk_ok m1 m2))) (S.bk o3 R3) o3.F
      unfold w_Reader_term_68
      rw [ca.2.2.2, show (7 : Int32) = nI 7 from rfl, supI_eq (fun m h => tR_lt h) (by decide)]
      exact ⟨fun q => w97 0#64 (by rw [if_neg q]), fun q => w97 1#64 (by rw [if_pos q])⟩
    refine ⟨fun y => w68 (.inl y), fun y7 => ⟨fun y8 => ?_, fun y => w68 (.inr y)⟩⟩
    have e2 : pAt c l (vsl c l E nb) B i = match vlk (vsl c l E nb) (tW c l i) with
      | some t => .ok (t, B, i)
      | none => match fnm B (tW c l i) with
        | some m => .ok (B.1 18 m, B, i)
        | none => .error (5, tF c l i) := by
      unfold pAt
      rw [if_pos z, if_neg (by intro q; rcases q with q | q; exact y7 q; exact y8 q)]
      rfl
    refine v_symTerm H g S z hE hn (fun t h => ?_) (fun m h1 h2 => ?_) (fun σ' h1 h2 f => ?_)
    · rw [xqi_i]
      refine ko (t, B, i) σ ?_ S (FR.refl _ _ _)
      rw [e2, h]
    · rw [xqi_i]
      refine ko (B.1 18 m, B, i) σ ?_ S (FR.refl _ _ _)
      rw [e2, h1]
      simp only [h2]
    · rw [xqi_e]
      refine kf _ σ' ?_ f
      rw [e2, h1]
      simp only [h2]
  · refine v_failHere H S (fun σ' f => ?_)
    rw [xqi_e]
    refine kf _ σ' ?_ f
    unfold pAt
    rw [if_neg z.2.2.2, if_neg z.2.1, if_neg z.2.2.1]
end CENV
