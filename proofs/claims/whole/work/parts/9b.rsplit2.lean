/-! THE REFERENCE SPLITS ITS TEXT: the loop -/
theorem rk_le : ∀ K, K < 32 → ((rkI K ≤ 0) ↔ ¬ K < 16) := by decide +kernel
theorem rk_6 : ∀ K, K < 32 → ((rkI K = 6) ↔ K = 5) := by decide +kernel
/-- only what stands of token j changes -/
def wr (j : Nat) (σ σ' : xS) : Prop := (∀ a b, ¬ (52 ≤ a ∧ a ≤ 55 ∧ b = j) → xi σ' a b = xi σ a b) ∧ (∀ a b, xl σ' a b = xl σ a b) ∧ xb σ' = xb σ
theorem wr.refl (j : Nat) (σ : xS) : wr j σ σ := ⟨fun _ _ _ => rfl, fun _ _ => rfl, rfl⟩
theorem wr.trans {j : Nat} {σ σ' σ2 : xS} (h : wr j σ σ') (h2 : wr j σ' σ2) : wr j σ σ2 := ⟨fun a b q => (h2.1 a b q).trans (h.1 a b q), fun a b => (h2.2.1 a b).trans (h.2.1 a b), h2.2.2.trans h.2.2⟩
theorem wr.pi (σ : xS) (a j : Nat) (x : Int32) (h : 52 ≤ a ∧ a ≤ 55) : wr j σ (xpi σ a j x) := ⟨fun a' b q => by rw [xi_pi, if_neg (fun z => q (by rw [z.1, z.2]; exact ⟨h.1, h.2, rfl⟩))], fun _ _ => rfl, rfl⟩
theorem RTB.keep {σ σ' : xS} {c : Nat → Nat} {l : Nat} (T : RTB σ c l) (h0 : xi σ' 50 3 = xi σ 50 3) (h : ∀ b, xi σ' 51 b = xi σ 51 b) : RTB σ' c l := ⟨h0.trans T.1, T.2.1, fun i hi => ⟨(T.2.2 i hi).1, (h i).trans (T.2.2 i hi).2⟩⟩
theorem RTB.wr {σ σ' : xS} {c : Nat → Nat} {l j : Nat} (T : RTB σ c l) (h : wr j σ σ') : RTB σ' c l := T.keep (h.1 50 3 (by omega)) (fun b => h.1 51 b (by omega))
def tkR (σ : xS) (j : Nat) (t : Tk) : Prop := xi σ 52 j = rkI t.1 ∧ xi σ 53 j = nI t.2.1 ∧ xi σ 54 j = nI t.2.2.1 ∧ xi σ 55 j = rix t.2.2.2
def PR (σ : xS) (c : Nat → Nat) (l N : Nat) : Prop := ∀ j, j ≤ N → tkR σ j (tok c l j)
def oQ (σ σ' : xS) : Prop := (∀ a b, ¬ (52 ≤ a ∧ a ≤ 55) → xi σ' a b = xi σ a b) ∧ (∀ a b, xl σ' a b = xl σ a b) ∧ xb σ' = xb σ
theorem oQ.refl (σ : xS) : oQ σ σ := ⟨fun _ _ _ => rfl, fun _ _ => rfl, rfl⟩
theorem oQ.trans {σ σ' σ2 : xS} (h : oQ σ σ') (h2 : oQ σ' σ2) : oQ σ σ2 := ⟨fun a b q => (h2.1 a b q).trans (h.1 a b q), fun a b => (h2.2.1 a b).trans (h.2.1 a b), h2.2.2.trans h.2.2⟩
theorem wr.Q {j : Nat} {σ σ' : xS} (h : wr j σ σ') : oQ σ σ' := ⟨fun a b q => h.1 a b (fun z => q ⟨z.1, z.2.1⟩), h.2.1, h.2.2⟩
theorem RTB.oQ {σ σ' : xS} {c : Nat → Nat} {l : Nat} (T : RTB σ c l) (h : oQ σ σ') : RTB σ' c l := T.keep (h.1 50 3 (by omega)) (fun b => h.1 51 b (by omega))
section RSPL2
variable {σ σ' : xS} {Q : xO → xS → Prop} {c : Nat → Nat} {l p q f o j : Nat} {K9 : Int32 → Int32 → Int32 → Int32 → xS → Prop}
theorem r_skip (T : RTB σ c l) (hp : p ≤ l) {o3 : Int32} (k : w_VectorSolverModel_split_125 Q K9 (nI j) (nI (skp c l (l - p) false p)) o3 σ) : ∃ m, w_VectorSolverModel_split_17 Q K9 m (nI j) (nI p) o3 0 σ := by
  have l1 := T.2.1
  obtain ⟨X, hX⟩ : ∃ X, X = skp c l (l - p) false p := ⟨_, rfl⟩
  rw [← hX] at k
  have key : ∀ n r p2, p2 + n = l → X = skp c l n r p2 → w_VectorSolverModel_split_17 Q K9 (n + 1) (nI j) (nI p2) o3 (bI r) σ := by
    intro n
    induction n with
    | zero =>
      intro r p2 h hs
      unfold w_VectorSolverModel_split_17
      rw [T.1]
      have hs : X = p2 := hs
      rw [hs] at k
      refine ⟨fun _ => k, fun z => absurd ((nI_leI (by omega) (by omega)).mpr (show l ≤ p2 by omega)) z⟩
    | succ n ih =>
      intro r p2 h hs
      have b := T.2.2 p2 (by omega)
      unfold skp at hs
      rw [if_pos (by omega)] at hs
      have go : ∀ r', X = skp c l n r' (p2 + 1) → w_VectorSolverModel_split_17 Q K9 (n + 1) (nI j) (nI (p2 + 1)) o3 (bI r') σ := fun r' hs' => ih r' (p2 + 1) (by omega) hs'
      have vi : vp_in (nI p2) 65536 := vp_in_nI (by omega) (by decide)
      have cp : (nI p2).toNatClampNeg = p2 := nI_clamp (by omega)
      have s101 : (r = true ∨ c p2 = 59) → w_VectorSolverModel_split_101 Q (w_VectorSolverModel_split_17 Q K9 (n + 1)) (nI j) (nI p2) o3 σ := fun hr => by
        unfold w_VectorSolverModel_split_101
        rw [cp, b.2]
        refine ⟨vi, fun z x e => ?_, fun z x e => ?_⟩
        · rw [show (10 : Int32) = nI 10 from rfl, sb_eq b.1 (by decide)] at z
          rw [show (1 : Int32) = nI 1 from rfl, nI_add] at e
          subst e
          rw [if_pos z] at hs
          exact go false hs
        · rw [show (10 : Int32) = nI 10 from rfl, sb_eq b.1 (by decide)] at z
          rw [show (1 : Int32) = nI 1 from rfl, nI_add] at e
          subst e
          rw [if_neg z] at hs
          by_cases y : c p2 = 59
          · rw [if_pos y] at hs
            exact go true hs
          · rw [if_neg y] at hs
            have rt := hr.resolve_right y
            rw [if_pos (.inl rt), rt] at hs
            exact go true hs
      have s85 : (r = true ∨ c p2 = 9 ∨ c p2 = 10 ∨ c p2 = 13 ∨ c p2 = 32 ∨ c p2 = 59) → w_VectorSolverModel_split_85 Q (w_VectorSolverModel_split_17 Q K9 (n + 1)) (nI j) (nI p2) o3 (bI r) σ := fun hr => by
        unfold w_VectorSolverModel_split_85
        rw [cp, b.2]
        refine ⟨fun z => s101 (.inl ?_), fun z => ⟨vi, fun z2 x e => ?_, fun z2 => s101 (.inr ?_)⟩⟩
        · cases r with
          | true => rfl
          | false => exact absurd rfl z
        · have rf : r = false := (bI_0 r).mp z
          rw [show (59 : Int32) = nI 59 from rfl, sb_eq b.1 (by decide)] at z2
          rw [show (1 : Int32) = nI 1 from rfl, nI_add] at e
          subst e
          rw [rf] at hs hr
          by_cases y : c p2 = 10
          · rw [if_pos y] at hs
            exact go false hs
          · rw [if_neg y, if_neg z2, if_pos (by simp only [Bool.false_eq_true, false_or] at hr ⊢; omega)] at hs
            exact go false hs
        · rw [show (59 : Int32) = nI 59 from rfl, sb_eq b.1 (by decide)] at z2
          exact z2
      unfold w_VectorSolverModel_split_17
      rw [T.1, cp, b.2, show (9 : Int32) = nI 9 from rfl, show (10 : Int32) = nI 10 from rfl, show (13 : Int32) = nI 13 from rfl, show (32 : Int32) = nI 32 from rfl, show (59 : Int32) = nI 59 from rfl, sb_eq b.1 (by decide), sb_eq b.1 (by decide), sb_eq b.1 (by decide), sb_eq b.1 (by decide), sb_eq b.1 (by decide)]
      refine ⟨fun z => absurd ((nI_leI (by omega) (by omega)).mp z) (by omega), fun _ => ⟨fun z => s85 (.inl ?_), fun z => ⟨vi, fun y => s85 (by omega), fun y9 => ⟨vi, fun y => s85 (by omega), fun y10 => ⟨vi, fun y => s85 (by omega), fun y13 => ⟨vi, fun y => s85 (by omega), fun y32 => ⟨vi, fun y59 => ?_, fun y => s85 (by omega)⟩⟩⟩⟩⟩⟩⟩
      · cases r with
        | true => rfl
        | false => exact absurd rfl z
      · have rf : r = false := (bI_0 r).mp z
        rw [if_neg y10, if_neg y59, if_neg (by rw [rf]; simp only [Bool.false_eq_true, false_or]; omega)] at hs
        rw [hs] at k
        exact k
  exact ⟨_, key (l - p) false p (by omega) hX⟩
theorem r_354 {s : xS} {t : Tk} {o' E : Nat} (hK : t.1 < 32) (hj : j < 65537) (e52 : xi s 52 j = rkI t.1) (k : ∀ s', s' = xpi s 54 j (nI E) → K9 (nI (j + 1)) (nI E) (oI o') (bI (decide (t.1 < 16))) s') : w_VectorSolverModel_split_354 Q K9 (nI j) (nI E) (oI o') s := by
  unfold w_VectorSolverModel_split_354
  have vi : vp_in (nI j) 65537 := vp_in_nI hj (by decide)
  rw [nI_clamp (by omega)]
  refine ⟨vi, fun s6 e6 => ⟨vi, fun z x e => ?_, fun z x e => ?_⟩⟩
  · rw [show (1 : Int32) = nI 1 from rfl, nI_add] at e
    subst e
    rw [e6, xi_pi, if_neg (by omega), e52, rk_le _ hK] at z
    have := k s6 e6
    rw [decide_eq_false z] at this
    exact this
  · rw [show (1 : Int32) = nI 1 from rfl, nI_add] at e
    subst e
    rw [e6, xi_pi, if_neg (by omega), e52, rk_le _ hK] at z
    have := k s6 e6
    rw [decide_eq_true (by omega)] at this
    exact this
theorem r_tok (T : RTB σ c l) (hf : f ≤ l) (hj : j < 65537) (o1 : 1 ≤ o) (o2 : o ≤ 70060)
    (k : ∀ σ', wr j σ σ' → tkR σ' j (tk2 c l f o).1 → K9 (nI (j + 1)) (nI (tk2 c l f o).2.1) (oI (tk2 c l f o).2.2) (bI (decide ((tk2 c l f o).1.1 < 16))) σ') : w_VectorSolverModel_split_125 Q K9 (nI j) (nI f) (oI o) σ := by
  have l1 := T.2.1
  have tl := tk2_le (c := c) (o := o) hf
  obtain ⟨t, ht⟩ : ∃ t, t = tk2 c l f o := ⟨_, rfl⟩
  rw [← ht] at k tl
  unfold tk2 at ht
  have vi : vp_in (nI j) 65537 := vp_in_nI hj (by decide)
  have cj : (nI j).toNatClampNeg = j := nI_clamp (by omega)
  have cf : (nI f).toNatClampNeg = f := nI_clamp (by omega)
  have m1 : vp_nar .byte (-1 : Int32) = -1 := by decide +kernel
  unfold w_VectorSolverModel_split_125
  rw [cj, m1]
  refine ⟨vi, fun s1 e1 => ⟨vi, fun s2 e2 => ?_⟩⟩
  have r2 : wr j σ s2 := by rw [e2, e1]; exact (wr.pi _ _ _ _ (by decide)).trans (wr.pi _ _ _ _ (by decide))
  have T2 := T.wr r2
  have v53 : xi s2 53 j = nI f := by rw [e2, xi_pi, if_neg (by omega), e1, xi_pi, if_pos ⟨rfl, rfl⟩]
  have v55 : xi s2 55 j = -1 := by rw [e2, xi_pi, if_pos ⟨rfl, rfl⟩]
  -- the end of each road
  have fin : ∀ s, wr j s2 s → xi s 53 j = nI f → xi s 52 j = rkI t.1.1 → xi s 55 j = rix t.1.2.2.2 → w_VectorSolverModel_split_354 Q K9 (nI j) (nI t.2.1) (oI t.2.2) s := fun s rs x53 x52 x55 => by
    refine r_354 (t := t.1) tl.2.2.2.2.2 hj x52 (fun s' es => ?_)
    have rw' : wr j s s' := by rw [es]; exact wr.pi _ _ _ _ (by decide)
    refine k s' (r2.trans (rs.trans rw')) ⟨?_, ?_, ?_, ?_⟩
    · rw [es, xi_pi, if_neg (by omega)]; exact x52
    · rw [es, xi_pi, if_neg (by omega), x53, tl.1]
    · rw [es, xi_pi, if_pos ⟨rfl, rfl⟩, tl.2.2.1]
    · rw [es, xi_pi, if_neg (by omega)]; exact x55
  rw [T2.1]
  by_cases z : l ≤ f
  · rw [if_pos z] at ht
    refine ⟨fun _ => ?_, fun n => absurd ((nI_leI (by omega) (by omega)).mpr z) n⟩
    unfold w_VectorSolverModel_split_161
    rw [T2.1, cj]
    refine ⟨fun n => absurd (congrArg nI (show f = l by omega)) n, fun _ => ⟨vi, fun s21 e21 => ?_⟩⟩
    have f0 := fin s21 (by rw [e21]; exact wr.pi _ _ _ _ (by decide)) (by rw [e21, xi_pi, if_neg (by omega)]; exact v53) (by rw [e21, xi_pi, if_pos ⟨rfl, rfl⟩, ht]; exact (by decide +kernel : vp_nar .byte (0 : Int32) = rkI 19)) (by rw [e21, xi_pi, if_neg (by omega), v55, ht]; rfl)
    rw [ht] at f0
    exact f0
  · rw [if_neg z] at ht
    have b := T2.2.2 f (by omega)
    refine ⟨fun n => absurd ((nI_leI (by omega) (by omega)).mp n) z, fun _ => ⟨vp_in_nI (by omega) (by decide), ?_⟩⟩
    rw [cf, b.2, sb_255 b.1]
    have cb := b.1
    have s238 : ∀ (d : Int32) (s : xS), wr j s2 s → xi s 53 j = nI f → xi s 52 j = rkI t.1.1 → xi s 55 j = rix t.1.2.2.2 → oI o + d = oI t.2.2 → f + 1 = t.2.1 → w_VectorSolverModel_split_238 Q K9 (nI j) (nI f) (oI o) d s := fun d s rs x53 x52 x55 od fe => by
      unfold w_VectorSolverModel_split_238
      intro x4 e4 x5 e5
      rw [od] at e4
      rw [show (1 : Int32) = nI 1 from rfl, nI_add, fe] at e5
      subst e4 e5
      exact fin s rs x53 x52 x55
    have s223 : ∀ (t2 : Int32), vp_nar .byte t2.toInt8.toInt32 = rkI t.1.1 → t.1.2.2.2 = none → (c f = 40 → oI o + 1 = oI t.2.2) → (¬ c f = 40 → oI o + -1 = oI t.2.2) → f + 1 = t.2.1 → w_VectorSolverModel_split_223 Q K9 (nI j) (nI f) (oI o) (nI (c f)) (nI j) t2 s2 := fun t2 h2 hr hp hm fe => by
      unfold w_VectorSolverModel_split_223
      rw [cj, h2]
      have st : ∀ s3, s3 = xpi s2 52 j (rkI t.1.1) → wr j s2 s3 ∧ xi s3 53 j = nI f ∧ xi s3 52 j = rkI t.1.1 ∧ xi s3 55 j = rix t.1.2.2.2 := fun s3 e3 => by
        rw [e3]
        exact ⟨wr.pi _ _ _ _ (by decide), by rw [xi_pi, if_neg (by omega)]; exact v53, by rw [xi_pi, if_pos ⟨rfl, rfl⟩], by rw [xi_pi, if_neg (by omega), v55, hr]; rfl⟩
      refine ⟨vi, fun s3 e3 => ⟨fun y => ?_, fun y => ?_⟩⟩
      · obtain ⟨a1, a2, a3, a4⟩ := st s3 e3
        exact s238 _ s3 a1 a2 a3 a4 (hm (fun e => y (congrArg nI e))) fe
      · obtain ⟨a1, a2, a3, a4⟩ := st s3 e3
        exact s238 _ s3 a1 a2 a3 a4 (hp ((nI_eq (by omega) (by decide)).mp y)) fe
    unfold w_VectorSolverModel_split_161
    rw [T2.1, cj]
    refine ⟨fun _ => ⟨fun y40 => ?_, fun n40 => ⟨fun n41 => ?_, fun y41 => ?_⟩⟩, fun n => absurd ((nI_eq (by omega) (by omega)).mp n) (by omega)⟩
    · have y40 : c f = 40 := (nI_eq (by omega) (by decide)).mp y40
      rw [if_pos y40] at ht
      unfold w_VectorSolverModel_split_195
      have op : oI o + 1 = oI t.2.2 := by rw [ht]; exact oI_s o
      refine ⟨fun _ => ⟨fun y => s223 _ ?_ (by rw [ht]) (fun _ => op) (fun n => absurd y40 n) (by rw [ht]), fun y => s223 _ ?_ (by rw [ht]) (fun _ => op) (fun n => absurd y40 n) (by rw [ht])⟩, fun n => absurd ((nI_eq (b := 41) (by omega) (by decide)).mp n) (by omega)⟩
      · rw [show (60 : Int32) = nI 60 from rfl, oI_eq (by omega)] at y
        rw [ht]
        show _ = rkI (if o < 70060 then 0 else 26)
        rw [if_pos (by omega)]
        decide +kernel
      · rw [show (60 : Int32) = nI 60 from rfl, oI_eq (by omega)] at y
        rw [ht]
        show _ = rkI (if o < 70060 then 0 else 26)
        rw [if_neg (by omega)]
        decide +kernel
    · have n40 : ¬ c f = 40 := fun e => n40 (congrArg nI e)
      have n41 : ¬ c f = 41 := fun e => n41 (congrArg nI e)
      rw [if_neg n40, if_neg n41] at ht
      refine r_isWord b.1 ?_
      rw [xqi_i]
      obtain ⟨n, hn⟩ : ∃ n, l - f = n + 1 := ⟨l - f - 1, by omega⟩
      cases ew : isW (c f) with
      | false =>
        refine ⟨fun y => absurd rfl y, fun _ => ⟨vi, fun s20 e20 => ?_⟩⟩
        have wf : wnd c l (l - f) f = f := by
          rw [hn]
          unfold wnd
          rw [if_neg (fun x => by rw [ew] at x; cases x.2)]
        rw [if_pos wf] at ht
        rw [m1] at e20
        have f0 := fin s20 (by rw [e20]; exact wr.pi _ _ _ _ (by decide)) (by rw [e20, xi_pi, if_neg (by omega)]; exact v53) (by rw [e20, xi_pi, if_pos ⟨rfl, rfl⟩, ht]; exact (by decide +kernel : (-1 : Int32) = rkI 17)) (by rw [e20, xi_pi, if_neg (by omega), v55, ht]; rfl)
        rw [ht] at f0
        exact f0
      | true =>
        refine ⟨fun _ => ?_, fun y => absurd y (by decide)⟩
        have wl := wnd_le (c := c) (l - f) f hf
        have wf : ¬ wnd c l (l - f) f = f := by
          rw [hn]
          unfold wnd
          rw [if_pos ⟨by omega, ew⟩]
          have := wnd_le (c := c) n (f + 1) (show f + 1 ≤ l by omega)
          omega
        rw [if_neg wf] at ht
        obtain ⟨X, hX⟩ : ∃ X, X = wnd c l (l - f) f := ⟨_, rfl⟩
        rw [← hX] at ht wl wf
        have kc := kow_cs c f X
        have w299 : w_VectorSolverModel_split_299 Q K9 (nI j) (nI f) (oI o) (nI X) s2 := by
          unfold w_VectorSolverModel_split_299
          refine r_kow T2 wl.2.1 (by omega) ?_
          rw [xqi_i, cj, nar_rk _ (by omega)]
          refine ⟨vi, fun s13 e13 => ⟨vi, ?_⟩⟩
          have r13 : wr j s2 s13 := by rw [e13]; exact wr.pi _ _ _ _ (by decide)
          have x52 : xi s13 52 j = rkI (kow c f X) := by rw [e13, xi_pi, if_pos ⟨rfl, rfl⟩]
          have x53 : xi s13 53 j = nI f := by rw [e13, xi_pi, if_neg (by omega)]; exact v53
          have T13 := T2.wr r13
          have w349 : ∀ r : Option Nat, vp_nar .byte (rix r).toInt8.toInt32 = rix r → r = t.1.2.2.2 → w_VectorSolverModel_split_349 Q K9 (nI j) (oI o) (nI X) (nI j) (rix r) s13 := fun r hr er => by
            unfold w_VectorSolverModel_split_349
            rw [cj, hr]
            refine ⟨vi, fun s14 e14 => ?_⟩
            have f0 := fin s14 (r13.trans (by rw [e14]; exact wr.pi _ _ _ _ (by decide))) (by rw [e14, xi_pi, if_neg (by omega)]; exact x53) (by rw [e14, xi_pi, if_neg (by omega), x52, ht]) (by rw [e14, xi_pi, if_pos ⟨rfl, rfl⟩, er])
            rw [ht] at f0
            exact f0
          rw [x52, rk_6 _ (by omega)]
          have w348 : t.1.2.2.2 = none → w_VectorSolverModel_split_348 Q K9 (nI j) (oI o) (nI X) (nI j) s13 := fun h => by
            unfold w_VectorSolverModel_split_348
            exact w349 none (by decide +kernel) h.symm
          refine ⟨fun y => w348 ?_, fun y => ⟨fun y16 => w348 ?_, fun y16 => ?_⟩⟩
          · rw [ht]
            exact if_neg y
          · rw [ht]
            show (if kow c f X = 5 then rsv (wtx c f X) else none) = none
            rw [if_pos y]
            refine rsv_no (fun n hn e => ?_)
            have g := rws_f n hn
            have := congrArg List.length e
            rw [wtx_len] at this
            rw [nI_sub (by omega)] at y16
            have := (nI_leI (a := 16) (by decide) (by omega)).mp y16
            omega
          · refine r_resOf T13 wl.2.1 (by omega) wl.2.2 ?_
            rw [xqi_i]
            refine w349 _ ?_ ?_
            · cases er : rsv (wtx c f X) with
              | none => decide +kernel
              | some n => exact nar_ix n (rsv_lt er).1
            · rw [ht]
              exact (if_pos y).symm
        have key : ∀ n p2, p2 + n = l → X = wnd c l n p2 → w_VectorSolverModel_split_267 Q K9 (n + 1) (nI j) (nI f) (oI o) (nI p2) s2 := by
          intro n
          induction n with
          | zero =>
            intro p2 h hs
            have hs : X = p2 := hs
            unfold w_VectorSolverModel_split_267
            rw [T2.1, ← hs]
            exact ⟨fun _ => w299, fun z => absurd ((nI_leI (by omega) (by omega)).mpr (show l ≤ X by omega)) z⟩
          | succ n ih =>
            intro p2 h hs
            have b2 := T2.2.2 p2 (by omega)
            unfold wnd at hs
            unfold w_VectorSolverModel_split_267
            rw [T2.1, nI_clamp (show p2 < 2 ^ 31 by omega), b2.2, sb_255 b2.1]
            refine ⟨fun z => absurd ((nI_leI (by omega) (by omega)).mp z) (by omega), fun _ => ⟨vp_in_nI (by omega) (by decide), ?_⟩⟩
            refine r_isWord b2.1 ?_
            rw [xqi_i]
            refine ⟨fun y => ?_, fun y x19 e19 => ?_⟩
            · have y := (bI_0 _).mp y
              rw [if_neg (fun x => by rw [y] at x; cases x.2)] at hs
              rw [← hs]
              exact w299
            · have a : isW (c p2) = true := by cases x : isW (c p2) with
                | true => rfl
                | false => exact absurd ((bI_0 _).mpr x) y
              rw [if_pos ⟨by omega, a⟩] at hs
              rw [show (1 : Int32) = nI 1 from rfl, nI_add] at e19
              subst e19
              exact ih (p2 + 1) (by omega) hs
        exact ⟨_, key (l - f) f (by omega) hX⟩
    · have y41 : c f = 41 := (nI_eq (by omega) (by decide)).mp y41
      rw [if_neg (by omega), if_pos y41] at ht
      unfold w_VectorSolverModel_split_195
      have om : oI o + -1 = oI t.2.2 := by
        rw [ht]
        show oI o + -1 = oI (o - 1)
        rw [← oI_p o1, Int32.sub_eq_add_neg]
        rfl
      refine ⟨fun n => absurd (congrArg nI y41) n, fun _ => s223 _ (by rw [ht]; exact (by decide +kernel : vp_nar .byte (Int32.toInt8 2).toInt32 = rkI 1)) (by rw [ht]) (fun n => absurd n (by omega)) (fun _ => om) (by rw [ht])⟩
/-- the open count at a token that may be followed -/
theorem tk2_o60 {c : Nat → Nat} {l f o : Nat} (h : o ≤ 70060) (g : (tk2 c l f o).1.1 < 16) : (tk2 c l f o).2.2 ≤ 70060 := by
  unfold tk2 at g ⊢
  split at g
  · rename_i z; rw [if_pos z]; exact h
  · rename_i z
    rw [if_neg z]
    split at g
    · rename_i z2
      rw [if_pos z2]
      have g : (if o < 70060 then 0 else 26) < 16 := g
      show o + 1 ≤ 70060
      split at g
      · omega
      · omega
    · rename_i z2
      rw [if_neg z2]
      split at g
      · rename_i z3; rw [if_pos z3]; show o - 1 ≤ 70060; omega
      · rename_i z3
        rw [if_neg z3]
        split at g
        · rename_i z4; rw [if_pos z4]; exact h
        · rename_i z4; rw [if_neg z4]; exact h
theorem pos_o60 {c : Nat → Nat} {l : Nat} : ∀ j, (∀ i, i < j → (tok c l i).1 < 16) → (pos c l j).2 ≤ 70060 := by
  intro j
  induction j with
  | zero => intro _; show 70000 ≤ 70060; decide
  | succ j ih =>
    intro h
    exact tk2_o60 (ih (fun i hi => h i (by omega))) (h j (Nat.lt_succ_self _))
theorem r_split {N : Nat} (T : RTB σ c l) (hN : N ≤ l) (h1 : ∀ j, j < N → (tok c l j).1 < 16) (h2 : 16 ≤ (tok c l N).1)
    (k : ∀ σ', oQ σ σ' → PR σ' c l N → Q (.inl none) σ') : wp_VectorSolverModel_split Q σ := by
  have l1 := T.2.1
  have key : ∀ n j s, j + n = N + 1 → oQ σ s → (∀ i, i < j → tkR s i (tok c l i)) → w_VectorSolverModel_split_9 Q (n + 1) (nI j) (nI (pos c l j).1) (oI (pos c l j).2) (bI (decide (j ≤ N))) s := by
    intro n
    induction n with
    | zero =>
      intro j s hj o1 pc
      unfold w_VectorSolverModel_split_9
      rw [decide_eq_false (by omega)]
      exact ⟨fun _ => k s o1 (fun i hi => pc i (by omega)), fun n => absurd rfl n⟩
    | succ n ih =>
      intro j s hj o1 pc
      have T1 := T.oQ o1
      have pl := pos_le (c := c) (l := l) j
      have po := pos_o (c := c) (l := l) j
      have p6 := pos_o60 (c := c) (l := l) j (fun i hi => h1 i (by omega))
      unfold w_VectorSolverModel_split_9
      rw [decide_eq_true (show j ≤ N by omega)]
      refine ⟨fun n => absurd n (by decide), fun _ => ?_⟩
      refine r_skip T1 pl ?_
      have sk := skp_le (c := c) (l - (pos c l j).1) false (pos c l j).1 pl
      refine r_tok T1 sk.2 (by omega) (by omega) p6 (fun s' w' t' => ?_)
      have ht : (tk2 c l (skp c l (l - (pos c l j).1) false (pos c l j).1) (pos c l j).2).1 = tok c l j := rfl
      have hp : (tk2 c l (skp c l (l - (pos c l j).1) false (pos c l j).1) (pos c l j).2).2 = pos c l (j + 1) := rfl
      rw [ht] at t' ⊢
      rw [hp]
      have := ih (j + 1) s' (by omega) (o1.trans w'.Q) (fun i hi => ?_)
      · by_cases e : j = N
        · rw [decide_eq_false (show ¬ j + 1 ≤ N by omega)] at this
          rw [decide_eq_false (by rw [e]; omega)]
          exact this
        · rw [decide_eq_true (show j + 1 ≤ N by omega)] at this
          rw [decide_eq_true (h1 j (by omega))]
          exact this
      · by_cases e : i = j
        · rw [e]; exact t'
        · obtain ⟨a1, a2, a3, a4⟩ := pc i (by omega)
          exact ⟨(w'.1 52 i (by omega)).trans a1, (w'.1 53 i (by omega)).trans a2, (w'.1 54 i (by omega)).trans a3, (w'.1 55 i (by omega)).trans a4⟩
  unfold wp_VectorSolverModel_split
  have k0 := key (N + 1) 0 σ (by omega) (oQ.refl _) (fun i hi => absurd hi (by omega))
  rw [decide_eq_true (Nat.zero_le N)] at k0
  have e0 : oI (pos c l 0).2 = 0 := by show oI 70000 = 0; decide
  rw [e0] at k0
  exact ⟨_, k0⟩
end RSPL2
