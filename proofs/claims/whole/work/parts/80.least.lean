/-! THE SEARCH finds the least one -/
def sat (B : Bk) (sup : Option Nat) (J : Nat) : Prop := ∀ a, isGoal B sup a → ev B J a ≠ 0#64
/-- r is the least one from a start on, or there is none -/
def leastOK (B : Bk) (sup : Option Nat) (a : Nat) : Option Nat → Prop
  | none => ∀ J, a ≤ J → J < 2 ^ bsz B → ¬ sat B sup J
  | some r => a ≤ r ∧ r < 2 ^ bsz B ∧ sat B sup r ∧ ∀ J, a ≤ J → J < r → ¬ sat B sup J
def sInv (B : Bk) (σ : xS) : Prop := RC B σ ∧ mkd σ 36 (fun _ => false) ∧ mkd σ 47 (fun _ => false) ∧ ∀ a, a < 2000 → xl σ 43 a = jL 0#64
theorem atT.keep {B : Bk} {σ σ' : xS} {n : Nat} {E S T : Nat → Nat} {I L : List Nat} (h : atT B σ n E S T) (o : oN I L σ σ') (h1 : 35 ∉ I) (h2 : 41 ∉ L) : atT B σ' n E S T := fun j hj => ⟨(o.1 35 j h1).trans (h j hj).1, (h j hj).2.1, fun i i1 i2 i3 => (o.2.1 41 _ h2).trans ((h j hj).2.2 i i1 i2 i3)⟩
theorem mkd.keep {σ σ' : xS} {c : Nat} {M : Nat → Bool} {I L : List Nat} (h : mkd σ c M) (o : oN I L σ σ') (hc : c ∉ I) : mkd σ' c M := fun t ht => (o.1 c t hc).trans (h t ht)
theorem ngS.keep {S : Nat} {σ σ' : xS} {Bad : Nat → Prop} {a : Nat} {I L : List Nat} (h : ngS S σ Bad a) (o : oN I L σ σ') (h1 : 38 ∉ I) (h2 : 39 ∉ I) : ngS S σ' Bad a := fun p hp hb => by
  obtain ⟨N, H, b1, b2, b3⟩ := h p hp hb
  exact ⟨N, H, (o.1 38 p h1).trans b1, (o.1 39 p h2).trans b2, b3⟩
section LEAST
variable {B : Bk} {σ : xS} {Q : xO → xS → Prop} {sup : Option Nat} {a : Nat}
theorem supI_m1 {r : Option Nat} (h : ∀ x, r = some x → x < 2147483648) : (supI r = -nI 1) = (r = none) := by
  cases r with
  | none => exact propext ⟨fun _ => rfl, fun _ => rfl⟩
  | some p =>
    have h1 : (nI p = -1) = False := nI_ne_m1 (h p rfl)
    show (nI p = -1) = _
    rw [h1]
    simp
theorem s_least (I0 : sInv B σ) (w : wfB B) (l : lwB B) (hS : bsz B ≤ 16) (ha : a ≤ 2 ^ bsz B) (hs : ∀ t, sup = some t → t < bma B ∧ bso B t = 0)
    (k : ∀ σ' r, oN [30, 31, 32, 33, 34, 35, 36, 37, 38, 39, 42, 47] [41, 43, 45, 46] σ σ' → sInv B σ' → xi σ' 30 17 = xi σ 30 17 → leastOK B sup a r → Q (.inl (some (.int (supI r)))) σ') : wp_Search_least Q σ (nI a) (nI (bsz B)) (supI sup) := by
  obtain ⟨h, z36, z47, z43⟩ := I0
  have hm := wf_ma w
  have p16 : 2 ^ bsz B ≤ 65536 := Nat.pow_le_pow_right (n := 2) (by decide) hS
  have p1 := Nat.one_le_two_pow (n := bsz B)
  unfold wp_Search_least
  intro s1 e1 s2 e2
  have x15 : xi s1 30 15 = nI (bsz B) := by rw [e1, xi_pi, if_pos ⟨rfl, rfl⟩]
  rw [x15, show (1 : Int32) = nI 1 from rfl, nI_shl 1 (by omega), Nat.one_mul, nI_sub p1] at e2
  have o2 : oN [30] [] σ s2 := by
    rw [e2, e1]
    exact ((oN.pi σ 30 15 _).trans (oN.pi _ 30 16 _))
  have y15 : xi s2 30 15 = nI (bsz B) := by rw [e2, xi_pi, if_neg (by decide)]; exact x15
  have y16 : xi s2 30 16 = nI (2 ^ bsz B - 1) := by rw [e2, xi_pi, if_pos ⟨rfl, rfl⟩]
  have y17 : xi s2 30 17 = xi σ 30 17 := by rw [e2, e1, xi_pi, if_neg (by decide), xi_pi, if_neg (by decide)]
  rw [y16]
  simp (disch := omega) only [i32_lit, l64_lit, lc_eq, lc_ge, lc_le, lc_gt, lc_lt, jL_inj, jL_add, jL_sub, jL_mul, jL_neg, jL_and, jL_or, jL_xor, jL_mone, BitVec.xor_allOnes, nI_clamp, nI_ltI, nI_leI, nI_eq, nI_1, nI_add, nI_sub, nI_addm, nI_mul, vp_in_n, xi_pi, xi_pl, xl_pi, xl_pl, xb_pi, xb_pl, xqi_i, xql_l, xqv_v, xqi_e, xql_e, xqv_e, forall_eq, true_and, and_true]
  have h2 := o2.rc (by decide) (by decide) h
  refine ⟨fun c => ?_, fun c => ?_⟩
  · refine s_findDep h2 w hS y15 (fun s3 D o3 d3 => ?_)
    rw [xqv_v]
    have h3 := o3.rc (by decide) h2
    refine s_order (D := D) h3 w (fun t ht => (d3 t ht).1) hs (fun s4 n G o4 g4 n4 G4 G5 => ?_)
    rw [xqv_v]
    have h4 := o4.rc h3
    have v15 : xi s4 30 15 = nI (bsz B) := (o4.1 30 15 (by decide) (by decide)).trans ((o3.1 30 15 (by decide)).trans y15)
    have v16 : xi s4 30 16 = nI (2 ^ bsz B - 1) := (o4.1 30 16 (by decide) (by decide)).trans ((o3.1 30 16 (by decide)).trans y16)
    have v17 : xi s4 30 17 = xi σ 30 17 := (o4.1 30 17 (by decide) (by decide)).trans ((o3.1 30 17 (by decide)).trans y17)
    have oB4 : oN [30, 31, 32, 33, 34, 35, 36, 37, 38, 39, 42, 47] [41, 43, 45, 46] σ s4 := (o2.up (by decide) (by decide)).trans ((o3.n.up (by decide) (by decide)).trans (o4.n.up (by decide) (by decide)))
    have m4 : mkd s4 36 (fun _ => false) := z36.keep (o2.up (I' := [30, 31, 32]) (L' := []) (by decide) (by decide) |>.trans ((o3.n.up (by decide) (by decide)).trans (o4.n.up (by decide) (by decide)))) (by decide)
    refine s_list h4 w l hS v15 (show a < 2 ^ bsz B by omega) g4 n4 (fun j hj => ⟨(G4 j hj).1, (G4 j hj).2.1⟩) m4 (fun s5 E S o5 m5 st5 t5 w5 => ?_)
    rw [xqv_v]
    have h5 := o5.rc (by decide) (by decide) h4
    refine s_bound (Bad := fun J => J < a ∨ ¬ sat B sup J) hS ((o5.1 30 15 (by decide)).trans v15) ((o5.1 30 16 (by decide)).trans v16) (by omega) (fun J hJ => Or.inl hJ) (fun s6 o6 g6 => ?_)
    rw [xqv_v]
    have h6 := o6.rc (by decide) (by decide) h5
    have u15 : xi s6 30 15 = nI (bsz B) := (o6.1 30 15 (by decide)).trans ((o5.1 30 15 (by decide)).trans v15)
    have u16 : xi s6 30 16 = nI (2 ^ bsz B - 1) := (o6.1 30 16 (by decide)).trans ((o5.1 30 16 (by decide)).trans v16)
    have u17 : xi s6 30 17 = xi σ 30 17 := (o6.1 30 17 (by decide)).trans ((o5.1 30 17 (by decide)).trans v17)
    have oB6 : oN [30, 31, 32, 33, 34, 35, 36, 37, 38, 39, 42, 47] [41, 43, 45, 46] σ s6 := oB4.trans ((o5.up (by decide) (by decide)).trans (o6.up (by decide) (by decide)))
    have st6 := st5.keep o6 (by decide) (by decide) (by decide) (by decide)
    have T6 : atT B s6 n E S (fun _ => a) := fun j hj => ⟨(o6.1 35 j (by decide)).trans (t5 j hj), by show a < 2 ^ bsz B; omega, fun i i1 i2 i3 => (o6.2.1 41 _ (by decide)).trans (w5 i ?_)⟩
    rotate_left
    · have := E_le (fun j hj => (st5.2.1 j hj).2.1) (n - (j + 1)) (j + 1) (by omega)
      omega
    have d6 : ∀ t, t < bma B → xi s6 31 t = nI (D t) ∧ depOK B D t := fun t ht => ⟨(o6.1 31 t (by decide)).trans ((o5.1 31 t (by decide)).trans ((o4.1 31 t (by decide) (fun q => absurd q.1 (by decide))).trans (d3 t ht).1)), (d3 t ht).2⟩
    have m6 : mkd s6 36 (fun _ => false) := m5.keep o6 (by decide)
    have oK6 : oN [30, 31, 32, 33, 34, 35, 36, 37, 38, 39] [41] σ s6 := (o2.up (by decide) (by decide)).trans ((o3.n.up (by decide) (by decide)).trans ((o4.n.up (by decide) (by decide)).trans ((o5.up (by decide) (by decide)).trans (o6.up (by decide) (by decide)))))
    have c6 : mkd s6 47 (fun _ => false) := z47.keep oK6 (by decide)
    have e6 : ∀ b, b < 2000 → xl s6 43 b = jL 0#64 := fun b hb => (oK6.2.1 43 b (by decide)).trans (z43 b hb)
    have key := loop_i (σ := Option Nat × xS) (fun m t u => w_Search_least_52 Q m (supI u.1) (nI t) u.2) (fun t u => oN [35, 38, 39, 42, 47] [41, 43, 45, 46] s6 u.2 ∧ mkd u.2 47 (fun _ => false) ∧ (∀ b, b < 2000 → xl u.2 43 b = jL 0#64) ∧ (∃ T, atT B u.2 n E S T) ∧ (u.1 = none → ∀ J, J < 2 ^ bsz B → J < a ∨ ¬ sat B sup J) ∧ ∀ x, u.1 = some x → t ≤ x ∧ a ≤ x ∧ x < 2 ^ bsz B ∧ (∀ J, J < x → J < a ∨ ¬ sat B sup J) ∧ ngS (bsz B) u.2 (fun J => J < a ∨ ¬ sat B sup J) x) (2 ^ bsz B) (fun m u hU => ?_) (fun m t u ht hU hs2 => ?_)
    · have := key (2 ^ bsz B + 1) 0 (some a, s6) (by omega) (by omega) ⟨oN.refl _ _ _, c6, e6, ⟨_, T6⟩, fun q => (by cases q), fun x hx => ?_⟩
      · exact ⟨_, this⟩
      · cases hx
        exact ⟨Nat.zero_le _, Nat.le_refl _, by omega, fun J hJ => Or.inl hJ, g6⟩
    · obtain ⟨q1, q2, q3, q4, q5, q6⟩ := hU
      have hu : u.1 = none := by
        cases e : u.1 with
        | none => rfl
        | some x => have := q6 x e; omega
      have f16 := (q1.1 30 16 (by decide)).trans u16
      show w_Search_least_52 Q (m + 1) (supI u.1) (nI (2 ^ bsz B)) u.2
      unfold w_Search_least_52
      simp (disch := omega) only [i32_lit, l64_lit, lc_eq, lc_ge, lc_le, lc_gt, lc_lt, jL_inj, jL_add, jL_sub, jL_mul, jL_neg, jL_and, jL_or, jL_xor, jL_mone, BitVec.xor_allOnes, nI_clamp, nI_ltI, nI_leI, nI_eq, nI_1, nI_add, nI_sub, nI_addm, nI_mul, vp_in_n, xi_pi, xi_pl, xl_pi, xl_pl, xb_pi, xb_pl, xqi_i, xql_l, xqv_v, xqi_e, xql_e, xqv_e, forall_eq, true_and, and_true, f16]
      refine ⟨fun _ => ?_, fun z => absurd z (by omega)⟩
      refine k u.2 none (oB6.trans (q1.up (by decide) (by decide))) ⟨q1.rc (by decide) (by decide) h6, m6.keep q1 (by decide), q2, q3⟩ ((q1.1 30 17 (by decide)).trans u17) (fun J j1 j2 hs3 => ?_)
      rcases q5 hu J j2 with q | q
      · omega
      · exact q hs3
    · obtain ⟨q1, q2, q3, ⟨T, q4⟩, q5, q6⟩ := hU
      have f15 := (q1.1 30 15 (by decide)).trans u15
      have f16 := (q1.1 30 16 (by decide)).trans u16
      have hx4 : ∀ x, u.1 = some x → x < 2147483648 := fun x hx => by have := q6 x hx; omega
      have ru := q1.rc (by decide) (by decide) h6
      show w_Search_least_52 Q (m + 1) (supI u.1) (nI t) u.2
      unfold w_Search_least_52
      simp (disch := omega) only [i32_lit, l64_lit, lc_eq, lc_ge, lc_le, lc_gt, lc_lt, jL_inj, jL_add, jL_sub, jL_mul, jL_neg, jL_and, jL_or, jL_xor, jL_mone, BitVec.xor_allOnes, nI_clamp, nI_ltI, nI_leI, nI_eq, nI_1, nI_add, nI_sub, nI_addm, nI_mul, vp_in_n, xi_pi, xi_pl, xl_pi, xl_pl, xb_pi, xb_pl, xqi_i, xql_l, xqv_v, xqi_e, xql_e, xqv_e, forall_eq, true_and, and_true, f16, supI_m1 hx4]
      refine ⟨fun z => absurd z (by omega), fun _ => ⟨fun hu => ?_, fun hu => ?_⟩⟩
      · refine k u.2 none (oB6.trans (q1.up (by decide) (by decide))) ⟨ru, m6.keep q1 (by decide), q2, q3⟩ ((q1.1 30 17 (by decide)).trans u17) (fun J j1 j2 hs3 => ?_)
        rcases q5 hu J j2 with q | q
        · omega
        · exact q hs3
      · cases hx : u.1 with
        | none => exact absurd hx hu
        | some x =>
          obtain ⟨x0, x1, x2, x3, x4⟩ := q6 x hx
          show wp_Search_falseGoal _ u.2 (nI x)
          have stu := st6.keep q1 (by decide) (by decide) (by decide) (by decide)
          refine s_false ru w hS f15 x2 (fun t ht => ⟨(q1.1 31 t (by decide)).trans (d6 t ht).1, (d6 t ht).2⟩) n4 stu q4 (fun σ7 T7 o7 t7 a7 => ?_) (fun σ7 T7 j o7 t7 j7 e7 M7 => ?_)
          · rw [xqi_i]
            refine ⟨fun n => absurd rfl n, fun _ => ?_⟩
            have o67 := q1.trans (o7.up (by decide) (by decide))
            refine k σ7 (some x) (oB6.trans (o67.up (by decide) (by decide))) ⟨o67.rc (by decide) (by decide) h6, m6.keep o67 (by decide), q2.keep o7 (by decide), fun b hb => (o7.2.1 43 b (by decide)).trans (q3 b hb)⟩ ((o67.1 30 17 (by decide)).trans u17) ⟨x1, x2, fun b gb => ?_, fun J j1 j2 hs3 => ?_⟩
            · obtain ⟨j, j1, j2⟩ := G5 b gb
              rw [← j2]; exact a7 j j1
            · rcases x3 J j2 with q | q
              · omega
              · exact q hs3
          · rw [xqi_i]
            have gj := G4 j j7
            have nm : (nI (G j) = -nI 1) = False := nI_ne_m1 (by omega)
            simp only [i32_lit, nm]
            refine ⟨fun _ => ?_, fun n => n.elim⟩
            obtain ⟨M, c7, w7⟩ := M7
            have r7 := o7.rc (by decide) (by decide) ru
            have f157 := (o7.1 30 15 (by decide)).trans f15
            rw [f157]
            refine l_explain r7 w l hS gj.1 gj.2.1 c7 w7 (fun b hb => (o7.2.1 43 b (by decide)).trans (q3 b hb)) (fun σ8 mk o8 z8 k8 A8 => ?_)
            rw [xqi_i]
            have r8 := o8.rc r7
            have o78 : oN [35, 42] [41, 43] u.2 σ8 := (o7.up (by decide) (by decide)).trans (o8.n.up (by decide) (by decide))
            have f158 := (o78.1 30 15 (by decide)).trans f15
            have f168 := (o78.1 30 16 (by decide)).trans f16
            have t8 := t7.keep o8.n (by decide) (by decide)
            have go : ∀ σ9, oN [47] [45, 46] σ8 σ9 → mkd σ9 47 (fun _ => false) → bad (bsz B) (fun J => J < a ∨ ¬ sat B sup J) mk (x &&& mk) → w_Search_least_147 Q (w_Search_least_52 Q m) (nI x) (nI t) (nI mk) σ9 := by
              intro σ9 o9 z9 b9
              have o89 : oN [35, 42, 47] [41, 43, 45, 46] u.2 σ9 := (o78.up (by decide) (by decide)).trans (o9.up (by decide) (by decide))
              unfold w_Search_least_147
              refine s_next hS ((o89.1 30 15 (by decide)).trans f15) x2 k8 b9 x3 (x4.keep o89 (by decide) (by decide)) (fun all => ?_) (fun σ10 a' o10 l10 l11 b10 g10 => ?_)
              · rw [xqi_i]
                simp (disch := omega) only [i32_lit, l64_lit, lc_eq, lc_ge, lc_le, lc_gt, lc_lt, jL_inj, jL_add, jL_sub, jL_mul, jL_neg, jL_and, jL_or, jL_xor, jL_mone, BitVec.xor_allOnes, nI_clamp, nI_ltI, nI_leI, nI_eq, nI_1, nI_add, nI_sub, nI_addm, nI_mul, vp_in_n, xi_pi, xi_pl, xl_pi, xl_pl, xb_pi, xb_pl, xqi_i, xql_l, xqv_v, xqi_e, xql_e, xqv_e, forall_eq, true_and, and_true]
                exact hs2 (none, σ9) ⟨q1.trans (o89.up (by decide) (by decide)), z9, fun b hb => (o9.2.1 43 b (by decide)).trans (z8 b hb), ⟨T7, t8.keep o9 (by decide) (by decide)⟩, fun _ => all, fun y hy => by cases hy⟩
              · rw [xqi_i]
                simp (disch := omega) only [i32_lit, l64_lit, lc_eq, lc_ge, lc_le, lc_gt, lc_lt, jL_inj, jL_add, jL_sub, jL_mul, jL_neg, jL_and, jL_or, jL_xor, jL_mone, BitVec.xor_allOnes, nI_clamp, nI_ltI, nI_leI, nI_eq, nI_1, nI_add, nI_sub, nI_addm, nI_mul, vp_in_n, xi_pi, xi_pl, xl_pi, xl_pl, xb_pi, xb_pl, xqi_i, xql_l, xqv_v, xqi_e, xql_e, xqv_e, forall_eq, true_and, and_true]
                refine hs2 (some a', σ10) ⟨q1.trans ((o89.up (by decide) (by decide)).trans (o10.up (by decide) (by decide))), z9.keep o10 (by decide), fun b hb => (o10.2.1 43 b (by decide)).trans ((o9.2.1 43 b (by decide)).trans (z8 b hb)), ⟨T7, (t8.keep o9 (by decide) (by decide)).keep o10 (by decide) (by decide)⟩, fun q => (by cases q), fun y hy => ?_⟩
                cases hy
                exact ⟨by omega, by omega, l11, b10, g10⟩
            simp (disch := omega) only [i32_lit, l64_lit, lc_eq, lc_ge, lc_le, lc_gt, lc_lt, jL_inj, jL_add, jL_sub, jL_mul, jL_neg, jL_and, jL_or, jL_xor, jL_mone, BitVec.xor_allOnes, nI_clamp, nI_ltI, nI_leI, nI_eq, nI_1, nI_add, nI_sub, nI_addm, nI_mul, vp_in_n, xi_pi, xi_pl, xl_pi, xl_pl, xb_pi, xb_pl, xqi_i, xql_l, xqv_v, xqi_e, xql_e, xqv_e, forall_eq, true_and, and_true, f168]
            refine ⟨fun e => go σ8 (oN.refl _ _ _) ((q2.keep o78 (by decide))) (fun J hJ hm2 => Or.inr (fun hs3 => ?_)), fun e => ?_⟩
            · have eJ : J = x := by
                rw [e] at hm2
                rw [Nat.and_two_pow_sub_one_eq_mod, Nat.and_two_pow_sub_one_eq_mod, Nat.mod_eq_of_lt hJ, Nat.mod_eq_of_lt x2] at hm2
                exact hm2
              rw [eJ] at hs3
              exact hs3 (G j) gj.2.2 e7
            · rw [f158, show supI (some x) = nI x from rfl, nI_and (by omega) (by omega)]
              refine c_followsFalse r8 w l gj.1 gj.2.1 hS (by omega) (by omega) (q2.keep o78 (by decide)) (fun σ9 r o9 z9 b9 r9 => ?_)
              rw [xqi_i]
              have rt := r9 e7 A8
              refine ⟨fun _ => go σ9 o9.n z9 (fun J hJ hm2 => Or.inr (fun hs3 => hs3 (G j) gj.2.2 (b9 rt J hm2))), fun n => ?_⟩
              rw [rt] at n
              exact absurd n (by decide)
  · refine k s2 none (o2.up (by decide) (by decide)) ⟨h2, z36.keep o2 (by decide), z47.keep o2 (by decide), fun b hb => (o2.2.1 43 b (by decide)).trans (z43 b hb)⟩ y17 (fun J j1 j2 => ?_)
    omega
end LEAST
