/-! the steps: all terms of the goals' cones, each once, arguments first -/
def oN (I L : List Nat) (σ σ' : xS) : Prop := (∀ a b, a ∉ I → xi σ' a b = xi σ a b) ∧ (∀ a b, a ∉ L → xl σ' a b = xl σ a b) ∧ xb σ' = xb σ
theorem oN.refl (I L : List Nat) (σ : xS) : oN I L σ σ := ⟨fun _ _ _ => rfl, fun _ _ _ => rfl, rfl⟩
theorem oN.trans {I L : List Nat} {σ σ' σ2 : xS} (h : oN I L σ σ') (h2 : oN I L σ' σ2) : oN I L σ σ2 := ⟨fun a b q => (h2.1 a b q).trans (h.1 a b q), fun a b q => (h2.2.1 a b q).trans (h.2.1 a b q), h2.2.2.trans h.2.2⟩
theorem oN.up {I L I' L' : List Nat} {σ σ' : xS} (h : oN I L σ σ') (hI : ∀ a ∈ I, a ∈ I') (hL : ∀ a ∈ L, a ∈ L') : oN I' L' σ σ' := ⟨fun a b q => h.1 a b (fun z => q (hI a z)), fun a b q => h.2.1 a b (fun z => q (hL a z)), h.2.2⟩
theorem oN.rc {B : Bk} {I L : List Nat} {σ σ' : xS} (h : oN I L σ σ') (hI : ∀ a ∈ I, 23 ≤ a ∨ a ≤ 4) (hL : ∀ a ∈ L, 14 ≤ a) (r : RC B σ) : RC B σ' := r.keep (fun a b h1 h2 => h.1 a b (fun z => by have := hI a z; omega)) (fun a b h1 h2 => h.2.1 a b (fun z => by have := hL a z; omega))
theorem oN.pi (σ : xS) (c j : Nat) (x : Int32) : oN [c] [] σ (xpi σ c j x) := ⟨fun a b q => by rw [xi_pi, if_neg (fun z => q (by rw [z.1]; exact List.mem_singleton.mpr rfl))], fun _ _ _ => rfl, rfl⟩
theorem oN.pl (σ : xS) (c j : Nat) (x : Int64) : oN [] [c] σ (xpl σ c j x) := ⟨fun _ _ _ => rfl, fun a b q => by rw [xl_pl, if_neg (fun z => q (by rw [z.1]; exact List.mem_singleton.mpr rfl))], rfl⟩
theorem onlyI.n {c : Nat} {σ σ' : xS} (h : onlyI c σ σ') : oN [c] [] σ σ' := ⟨fun a b q => h.1 a b (fun z => q (by rw [z]; exact List.mem_singleton.mpr rfl)), fun a b _ => h.2.1 a b, h.2.2⟩
theorem onlyL.n {c : Nat} {σ σ' : xS} (h : onlyL c σ σ') : oN [] [c] σ σ' := ⟨fun a b _ => h.1 a b, fun a b q => h.2.1 a b (fun z => q (by rw [z]; exact List.mem_singleton.mpr rfl)), h.2.2⟩
theorem onlyG.n {σ σ' : xS} (h : onlyG σ σ') : oN [30, 32] [] σ σ' := ⟨fun a b q => h.1 a b (fun z => q (by rw [z]; decide)) (fun z => q (by rw [z.1]; decide)), fun a b _ => h.2.1 a b, h.2.2⟩
theorem onlyC.n {σ σ' : xS} (h : onlyC σ σ') : oN [47] [45, 46] σ σ' := ⟨fun a b q => h.1 a b (fun z => q (by rw [z]; decide)), fun a b q => h.2.1 a b (fun z => q (by rw [z]; decide)) (fun z => q (by rw [z]; decide)), h.2.2⟩
theorem onlyE.n {σ σ' : xS} (h : onlyE σ σ') : oN [42] [43] σ σ' := ⟨fun a b q => h.1 a b (fun z => q (by rw [z]; decide)), fun a b q => h.2.1 a b (fun z => q (by rw [z]; decide)), h.2.2⟩
def mkB (σ : xS) (c m : Nat) (L : Nat → Bool) : Prop := ∀ t, t < m → xi σ c t = nI (if L t then 1 else 0)
theorem mkB_0 {σ : xS} {c t m : Nat} {L : Nat → Bool} (h : mkB σ c m L) (ht : t < m) : (xi σ c t = nI 0) = (L t = false) := by
  rw [h t ht]
  cases L t
  · simp
  · simp
    decide
/-- what stands in the list of steps, up to en -/
def lsS (B : Bk) (σ : xS) (en : Nat) (S : Nat → Nat) (L : Nat → Bool) : Prop := en = cnt L (bma B) ∧ (∀ i, i < en → xi σ 33 i = nI (S i) ∧ S i < bma B ∧ L (S i) = true ∧ ∀ a, sonOf B (S i) a → ∃ i', i' < i ∧ S i' = a) ∧ (∀ i i', i < en → i' < en → S i = S i' → i = i') ∧ ∀ t, t < bma B → L t = true → ∃ i, i < en ∧ S i = t
def stS (B : Bk) (σ : xS) (n : Nat) (G E S : Nat → Nat) : Prop := gSt σ n G ∧ (∀ j, j < n → xi σ 34 j = nI (E (j + 1)) ∧ E j ≤ E (j + 1) ∧ G j < bma B ∧ bso B (G j) = 0 ∧ ∃ M, isCone B (G j) M ∧ ∀ t, M t = true → ∃ i, i < E (j + 1) ∧ S i = t) ∧ E 0 = 0 ∧ ∃ L, lsS B σ (E n) S L
section STEPS
variable {B : Bk} {σ : xS} {Q : xO → xS → Prop} {G : Nat → Nat} {J n0 : Nat}
theorem s_list (h : RC B σ) (w : wfB B) (l : lwB B) (hS : bsz B ≤ 16) (hs : xi σ 30 15 = nI (bsz B)) (hJ : J < 2 ^ bsz B) (hg : gSt σ n0 G) (hn : n0 ≤ 501) (hG : ∀ j, j < n0 → G j < bma B ∧ bso B (G j) = 0) (h0 : mkd σ 36 (fun _ => false))
    (k : ∀ σ' E S, oN [33, 34, 35, 36, 37] [41] σ σ' → mkd σ' 36 (fun _ => false) → stS B σ' n0 G E S → (∀ j, j < n0 → xi σ' 35 j = nI J) → (∀ i, i < E n0 → xl σ' 41 (S i) = jL (ev B J (S i))) → Q (.inl none) σ') : wp_Search_listSteps Q σ (nI J) := by
  have hm := wf_ma w
  have p16 : 2 ^ bsz B ≤ 65536 := Nat.pow_le_pow_right (n := 2) (by decide) hS
  have iI : ∀ a ∈ [33, 34, 35, 36, 37], 23 ≤ a ∨ a ≤ 4 := by decide
  have iL : ∀ a ∈ [41], 14 ≤ a := by decide
  unfold wp_Search_listSteps
  have key := loop_i (σ := xS) (fun n i s => w_Search_listSteps_2 Q n (nI J) (nI i) s) (fun i s => onlyI 37 σ s ∧ mkB s 37 i (fun _ => false)) (bma B) (fun n s hI => ?_) (fun n i s hi hI hs2 => ?_)
  · exact ⟨_, key (bma B + 1) 0 σ (by omega) (by omega) ⟨onlyI.refl _ _, fun t ht => absurd ht (by omega)⟩⟩
  · obtain ⟨a1, a2⟩ := hI
    have r := a1.rc (by decide) h
    unfold w_Search_listSteps_2
    simp (disch := omega) only [i32_lit, l64_lit, lc_eq, lc_ge, lc_le, lc_gt, lc_lt, jL_inj, jL_add, jL_sub, jL_mul, jL_neg, jL_and, jL_or, jL_xor, jL_mone, BitVec.xor_allOnes, nI_clamp, nI_ltI, nI_leI, nI_eq, nI_1, nI_add, nI_sub, nI_addm, nI_mul, vp_in_n, xi_pi, xi_pl, xl_pi, xl_pl, xb_pi, xb_pl, xqi_i, xql_l, xqv_v, xqi_e, xql_e, xqv_e, forall_eq, true_and, and_true, r.1.1, (a1.1 30 15 (by decide)).trans hs]
    refine ⟨fun _ => ?_, fun z => absurd (Nat.le_refl _) z⟩
    refine e_takeThings_40 r w hS (by omega) (fun σ1 o1 t1 t2 => ?_)
    rw [xqv_v]
    have oS : oN [33, 34, 35, 36, 37] [41] σ σ1 := (a1.n.up (by decide) (by decide)).trans (o1.n.up (by decide) (by decide))
    have b2 : mkB σ1 37 (bma B) (fun _ => false) := fun t ht => (o1.1 37 t).trans (a2 t ht)
    have m2 : mkd σ1 36 (fun _ => false) := fun t ht => (o1.1 36 t).trans ((a1.1 36 t (by decide)).trans (h0 t ht))
    have g2 : gSt σ1 n0 G := ⟨(o1.1 30 7).trans ((a1.1 30 7 (by decide)).trans hg.1), fun j hj => (o1.1 32 j).trans ((a1.1 32 j (by decide)).trans (hg.2 j hj))⟩
    have key2 := loop_i (σ := Nat × xS) (fun m j s => w_Search_listSteps_42 Q m (nI J) (nI s.1) (nI j) s.2) (fun j s => oN [33, 34, 35, 36, 37] [41] σ s.2 ∧ mkd s.2 36 (fun _ => false) ∧ (∀ i, i < bth B → xl s.2 41 (btt B i) = jL (ev B J (btt B i))) ∧ ∃ (E S : Nat → Nat) (L : Nat → Bool), s.1 = E j ∧ mkB s.2 37 (bma B) L ∧ lsS B s.2 (E j) S L ∧ (∀ i, i < E j → xl s.2 41 (S i) = jL (ev B J (S i))) ∧ E 0 = 0 ∧ ∀ b, b < j → xi s.2 34 b = nI (E (b + 1)) ∧ E b ≤ E (b + 1) ∧ xi s.2 35 b = nI J ∧ E (b + 1) ≤ E j ∧ ∃ M, isCone B (G b) M ∧ ∀ t, M t = true → ∃ i, i < E (b + 1) ∧ S i = t) n0 (fun m s hO => ?_) (fun m j s hj hO hs3 => ?_)
    · have z0 : ∀ n, cnt (fun _ => false) n = 0 := fun n => by
        induction n with
        | zero => rfl
        | succ n ih => unfold cnt; rw [ih]; rfl
      exact ⟨_, key2 (n0 + 1) 0 (0, σ1) (by omega) (by omega) ⟨oS, m2, t1, fun _ => 0, fun _ => 0, fun _ => false, rfl, b2, ⟨(z0 _).symm, fun i hi => absurd hi (Nat.not_lt_zero _), fun i i' hi => absurd hi (Nat.not_lt_zero _), fun t _ q => by cases q⟩, fun i hi => absurd hi (Nat.not_lt_zero _), rfl, fun b hb => absurd hb (by omega)⟩⟩
    · obtain ⟨q1, q2, q3, E, S, L, q4, q5, q6, q7, q8, q9⟩ := hO
      have gs : gSt s.2 n0 G := ⟨(q1.1 30 7 (by decide)).trans hg.1, fun j hj => (q1.1 32 j (by decide)).trans (hg.2 j hj)⟩
      show w_Search_listSteps_42 Q (m + 1) (nI J) (nI s.1) (nI n0) s.2
      unfold w_Search_listSteps_42
      simp (disch := omega) only [i32_lit, l64_lit, lc_eq, lc_ge, lc_le, lc_gt, lc_lt, jL_inj, jL_add, jL_sub, jL_mul, jL_neg, jL_and, jL_or, jL_xor, jL_mone, BitVec.xor_allOnes, nI_clamp, nI_ltI, nI_leI, nI_eq, nI_1, nI_add, nI_sub, nI_addm, nI_mul, vp_in_n, xi_pi, xi_pl, xl_pi, xl_pl, xb_pi, xb_pl, xqi_i, xql_l, xqv_v, xqi_e, xql_e, xqv_e, forall_eq, true_and, and_true, gs.1]
      exact ⟨fun _ => k s.2 E S q1 q2 ⟨gs, fun j hj => ⟨(q9 j hj).1, (q9 j hj).2.1, (hG j hj).1, (hG j hj).2, (q9 j hj).2.2.2.2⟩, q8, L, q6⟩ (fun j hj => (q9 j hj).2.2.1) q7, fun z => absurd (Nat.le_refl _) z⟩
    · obtain ⟨q1, q2, q3, E, S, L, q4, q5, q6, q7, q8, q9⟩ := hO
      have gs : gSt s.2 n0 G := ⟨(q1.1 30 7 (by decide)).trans hg.1, fun j hj => (q1.1 32 j (by decide)).trans (hg.2 j hj)⟩
      have r2 := q1.rc iI iL h
      have gj := hG j hj
      have lgj := (l (G j) gj.1).1
      show w_Search_listSteps_42 Q (m + 1) (nI J) (nI s.1) (nI j) s.2
      unfold w_Search_listSteps_42
      simp (disch := omega) only [i32_lit, l64_lit, lc_eq, lc_ge, lc_le, lc_gt, lc_lt, jL_inj, jL_add, jL_sub, jL_mul, jL_neg, jL_and, jL_or, jL_xor, jL_mone, BitVec.xor_allOnes, nI_clamp, nI_ltI, nI_leI, nI_eq, nI_1, nI_add, nI_sub, nI_addm, nI_mul, vp_in_n, xi_pi, xi_pl, xl_pi, xl_pl, xb_pi, xb_pl, xqi_i, xql_l, xqv_v, xqi_e, xql_e, xqv_e, forall_eq, true_and, and_true, gs.1, gs.2 j hj]
      refine ⟨fun z => absurd z (by omega), fun _ => ?_⟩
      refine m_cone_36 r2 w l gj.1 q2 (fun σ3 M o3 m3 c3 => ?_)
      rw [xqv_v]
      have o3' : oN [33, 34, 35, 36, 37] [41] σ σ3 := q1.trans (o3.n.up (by decide) (by decide))
      have r3 := o3'.rc iI iL h
      simp (disch := omega) only [i32_lit, l64_lit, lc_eq, lc_ge, lc_le, lc_gt, lc_lt, jL_inj, jL_add, jL_sub, jL_mul, jL_neg, jL_and, jL_or, jL_xor, jL_mone, BitVec.xor_allOnes, nI_clamp, nI_ltI, nI_leI, nI_eq, nI_1, nI_add, nI_sub, nI_addm, nI_mul, vp_in_n, xi_pi, xi_pl, xl_pi, xl_pl, xb_pi, xb_pl, xqi_i, xql_l, xqv_v, xqi_e, xql_e, xqv_e, forall_eq, true_and, and_true, rc_lw r3]
      have key3 := loop_i (σ := Nat × xS) (fun p t u => w_Search_listSteps_83 Q (w_Search_listSteps_42 Q m) p (nI J) (nI u.1) (nI j) (nI (G j)) (nI t) u.2) (fun t u => blw B (G j) ≤ t ∧ oN [33, 34, 35, 36, 37] [41] σ u.2 ∧ mkd u.2 36 (fun a => M a && decide (t ≤ a)) ∧ (∀ i, i < bth B → xl u.2 41 (btt B i) = jL (ev B J (btt B i))) ∧ (∀ b, b < j → xi u.2 34 b = nI (E (b + 1)) ∧ xi u.2 35 b = nI J) ∧ E j ≤ u.1 ∧ ∃ (S' : Nat → Nat) (L' : Nat → Bool), (∀ i, i < E j → S' i = S i) ∧ mkB u.2 37 (bma B) L' ∧ lsS B u.2 u.1 S' L' ∧ (∀ i, i < u.1 → xl u.2 41 (S' i) = jL (ev B J (S' i))) ∧ ∀ a, M a = true → a < t → L' a = true) (G j + 1) (fun p u hU => ?_) (fun p t u ht hU hs4 => ?_)
      · refine ⟨_, key3 (G j + 1 - blw B (G j) + 1) (blw B (G j)) (s.1, σ3) (by omega) (by omega) ⟨Nat.le_refl _, o3', m3.cg (fun a => ?_), fun i hi => (o3.2.1 41 _).trans (q3 i hi), fun b hb => ⟨(o3.1 34 b (by decide)).trans (q9 b hb).1, (o3.1 35 b (by decide)).trans (q9 b hb).2.2.1⟩, by show E j ≤ s.1; omega, S, L, fun _ _ => rfl, fun t ht => (o3.1 37 t (by decide)).trans (q5 t ht), ?_, fun i hi => ?_, fun a ha hlt => ?_⟩⟩
        · cases e : M a with
          | false => rfl
          | true => simp [(c3.2.2 a e).1]
        · show lsS B σ3 s.1 S L
          rw [q4]
          exact ⟨q6.1, fun i hi => ⟨(o3.1 33 i (by decide)).trans (q6.2.1 i hi).1, (q6.2.1 i hi).2⟩, q6.2.2⟩
        · have hi : i < s.1 := hi
          exact (o3.2.1 41 _).trans (q7 i (by omega))
        · exact absurd hlt (by have := (c3.2.2 a ha).1; omega)
      · obtain ⟨u0, u1, u2, u3, u4, u5, S', L', u6, u7, u8, u9, u10⟩ := hU
        have ul : u.1 ≤ 2000 := by have := cnt_le L' (bma B); have := u8.1; omega
        show w_Search_listSteps_83 Q (w_Search_listSteps_42 Q m) (p + 1) (nI J) (nI u.1) (nI j) (nI (G j)) (nI (G j + 1)) u.2
        unfold w_Search_listSteps_83
        simp (disch := omega) only [i32_lit, l64_lit, lc_eq, lc_ge, lc_le, lc_gt, lc_lt, jL_inj, jL_add, jL_sub, jL_mul, jL_neg, jL_and, jL_or, jL_xor, jL_mone, BitVec.xor_allOnes, nI_clamp, nI_ltI, nI_leI, nI_eq, nI_1, nI_add, nI_sub, nI_addm, nI_mul, vp_in_n, xi_pi, xi_pl, xl_pi, xl_pl, xb_pi, xb_pl, xqi_i, xql_l, xqv_v, xqi_e, xql_e, xqv_e, forall_eq, true_and, and_true]
        refine ⟨fun _ => ?_, fun z => absurd z (by omega)⟩
        have o5 : oN [33, 34, 35, 36, 37] [41] u.2 (xpi (xpi u.2 34 j (nI u.1)) 35 j (nI J)) := ((oN.pi u.2 34 j (nI u.1)).up (by decide) (by decide)).trans ((oN.pi _ 35 j (nI J)).up (by decide) (by decide))
        have i33 : ∀ b, xi (xpi (xpi u.2 34 j (nI u.1)) 35 j (nI J)) 33 b = xi u.2 33 b := fun b => by rw [xi_pi, if_neg (by omega), xi_pi, if_neg (by omega)]
        have i36 : ∀ b, xi (xpi (xpi u.2 34 j (nI u.1)) 35 j (nI J)) 36 b = xi u.2 36 b := fun b => by rw [xi_pi, if_neg (by omega), xi_pi, if_neg (by omega)]
        have i37 : ∀ b, xi (xpi (xpi u.2 34 j (nI u.1)) 35 j (nI J)) 37 b = xi u.2 37 b := fun b => by rw [xi_pi, if_neg (by omega), xi_pi, if_neg (by omega)]
        have Ee : ∀ b, b ≤ j → (if b = j + 1 then u.1 else E b) = E b := fun b hb => if_neg (by omega)
        have Eb : ∀ d b, b + d = j → E b ≤ E j := fun d => by
          induction d with
          | zero => intro b hb; rw [show b = j by omega]; exact Nat.le_refl _
          | succ d ih => intro b hb; exact Nat.le_trans (q9 b (by omega)).2.1 (ih (b + 1) (by omega))
        refine hs3 (u.1, xpi (xpi u.2 34 j (nI u.1)) 35 j (nI J)) ⟨u1.trans o5, fun a ha => ?_, u3, fun b => if b = j + 1 then u.1 else E b, S', L', (if_pos rfl).symm, fun t ht => (i37 t).trans (u7 t ht), ?_, ?_, ?_, fun b hb => ?_⟩
        · show xi (xpi (xpi u.2 34 j (nI u.1)) 35 j (nI J)) 36 a = nI 0
          rw [i36, u2 a ha]
          show nI (if (M a && decide (G j + 1 ≤ a)) = true then 1 else 0) = nI 0
          cases e : M a with
          | false => rfl
          | true =>
            have := (c3.2.2 a e).2
            rw [decide_eq_false (by omega)]
            simp
        · show lsS B _ (if j + 1 = j + 1 then u.1 else E (j + 1)) S' L'
          rw [if_pos rfl]
          exact ⟨u8.1, fun i hi => ⟨(i33 i).trans (u8.2.1 i hi).1, (u8.2.1 i hi).2⟩, u8.2.2⟩
        · show ∀ i, i < (if j + 1 = j + 1 then u.1 else E (j + 1)) → _
          rw [if_pos rfl]
          exact u9
        · show (if 0 = j + 1 then u.1 else E 0) = 0
          rw [if_neg (by omega)]; exact q8
        · show xi (xpi (xpi u.2 34 j (nI u.1)) 35 j (nI J)) 34 b = nI (if b + 1 = j + 1 then u.1 else E (b + 1)) ∧ (if b = j + 1 then u.1 else E b) ≤ (if b + 1 = j + 1 then u.1 else E (b + 1)) ∧ xi (xpi (xpi u.2 34 j (nI u.1)) 35 j (nI J)) 35 b = nI J ∧ (if b + 1 = j + 1 then u.1 else E (b + 1)) ≤ (if j + 1 = j + 1 then u.1 else E (j + 1)) ∧ ∃ M, isCone B (G b) M ∧ ∀ t, M t = true → ∃ i, i < (if b + 1 = j + 1 then u.1 else E (b + 1)) ∧ S' i = t
          rw [if_neg (show ¬ b = j + 1 by omega), if_pos (show j + 1 = j + 1 from rfl)]
          by_cases e : b = j
          · rw [if_pos (show b + 1 = j + 1 by omega), e]
            refine ⟨?_, u5, ?_, Nat.le_refl _, M, c3, fun t ht => ?_⟩
            · rw [xi_pi, if_neg (by omega), xi_pi, if_pos ⟨rfl, rfl⟩]
            · rw [xi_pi, if_pos ⟨rfl, rfl⟩]
            · have := (c3.2.2 t ht).2
              exact u8.2.2.2 t (by omega) (u10 t ht (by omega))
          · rw [if_neg (show ¬ b + 1 = j + 1 by omega)]
            have qb := q9 b (by omega)
            refine ⟨?_, qb.2.1, ?_, by have := qb.2.2.2.1; omega, ?_⟩
            · rw [xi_pi, if_neg (by omega), xi_pi, if_neg (by omega)]; exact (u4 b (by omega)).1
            · rw [xi_pi, if_neg (by omega), xi_pi, if_neg (by omega)]; exact (u4 b (by omega)).2
            · obtain ⟨M2, c4, c5⟩ := qb.2.2.2.2
              refine ⟨M2, c4, fun t ht => ?_⟩
              obtain ⟨i, i1, i2⟩ := c5 t ht
              exact ⟨i, i1, by rw [u6 i (by have := qb.2.2.2.1; omega)]; exact i2⟩
      · obtain ⟨u0, u1, u2, u3, u4, u5, S', L', u6, u7, u8, u9, u10⟩ := hU
        have tl : t < bma B := by omega
        have r4 := u1.rc iI iL h
        have ul := cnt_le L' (bma B)
        have u8e := u8.1
        -- the end of a step: its mark is cleared
        have fin3 : ∀ (e2 : Nat) (σ5 : xS) (S2 : Nat → Nat) (L2 : Nat → Bool), oN [33, 34, 35, 36, 37] [41] σ σ5 → mkd σ5 36 (fun a => M a && decide (t ≤ a)) → (∀ i, i < bth B → xl σ5 41 (btt B i) = jL (ev B J (btt B i))) → (∀ b, b < j → xi σ5 34 b = nI (E (b + 1)) ∧ xi σ5 35 b = nI J) → E j ≤ e2 → (∀ i, i < E j → S2 i = S i) → mkB σ5 37 (bma B) L2 → lsS B σ5 e2 S2 L2 → (∀ i, i < e2 → xl σ5 41 (S2 i) = jL (ev B J (S2 i))) → (∀ a, M a = true → a < t + 1 → L2 a = true) → w_Search_listSteps_138 Q (w_Search_listSteps_83 Q (w_Search_listSteps_42 Q m) p) (nI J) (nI e2) (nI j) (nI (G j)) (nI t) σ5 := by
          intro e2 σ5 S2 L2 v1 v2 v3 v4 v5 v6 v7 v8 v9 v10
          unfold w_Search_listSteps_138
          simp (disch := omega) only [i32_lit, l64_lit, lc_eq, lc_ge, lc_le, lc_gt, lc_lt, jL_inj, jL_add, jL_sub, jL_mul, jL_neg, jL_and, jL_or, jL_xor, jL_mone, BitVec.xor_allOnes, nI_clamp, nI_ltI, nI_leI, nI_eq, nI_1, nI_add, nI_sub, nI_addm, nI_mul, vp_in_n, xi_pi, xi_pl, xl_pi, xl_pl, xb_pi, xb_pl, xqi_i, xql_l, xqv_v, xqi_e, xql_e, xqv_e, forall_eq, true_and, and_true, nar_0]
          have op := (oN.pi σ5 36 t (nI 0)).up (I' := [33, 34, 35, 36, 37]) (L' := [41]) (by decide) (by decide)
          have i3 : ∀ c b, c ≠ 36 → xi (xpi σ5 36 t (nI 0)) c b = xi σ5 c b := fun c b q => by rw [xi_pi, if_neg (fun z => q z.1)]
          refine hs4 (e2, xpi σ5 36 t (nI 0)) ⟨by omega, v1.trans op, fun a ha => ?_, v3, fun b hb => ⟨(i3 34 b (by decide)).trans (v4 b hb).1, (i3 35 b (by decide)).trans (v4 b hb).2⟩, v5, S2, L2, v6, fun t ht => (i3 37 t (by decide)).trans (v7 t ht), ⟨v8.1, fun i hi => ⟨(i3 33 i (by decide)).trans (v8.2.1 i hi).1, (v8.2.1 i hi).2⟩, v8.2.2⟩, v9, v10⟩
          rw [xi_pi]
          show _ = nI (if (M a && decide (t + 1 ≤ a)) = true then 1 else 0)
          by_cases e : a = t
          · rw [if_pos ⟨rfl, e⟩, e, decide_eq_false (show ¬ t + 1 ≤ t by omega), Bool.and_false]; rfl
          · rw [if_neg (fun z => e z.2), v2 a ha]
            show nI (if (M a && decide (t ≤ a)) = true then 1 else 0) = _
            rw [show decide (t ≤ a) = decide (t + 1 ≤ a) from decide_eq_decide.mpr ⟨fun q => by omega, fun q => by omega⟩]
        show w_Search_listSteps_83 Q (w_Search_listSteps_42 Q m) (p + 1) (nI J) (nI u.1) (nI j) (nI (G j)) (nI t) u.2
        unfold w_Search_listSteps_83
        simp (disch := omega) only [i32_lit, l64_lit, lc_eq, lc_ge, lc_le, lc_gt, lc_lt, jL_inj, jL_add, jL_sub, jL_mul, jL_neg, jL_and, jL_or, jL_xor, jL_mone, BitVec.xor_allOnes, nI_clamp, nI_ltI, nI_leI, nI_eq, nI_1, nI_add, nI_sub, nI_addm, nI_mul, vp_in_n, xi_pi, xi_pl, xl_pi, xl_pl, xb_pi, xb_pl, xqi_i, xql_l, xqv_v, xqi_e, xql_e, xqv_e, forall_eq, true_and, and_true, mkd_0 u2, mkB_0 u7, nar_1]
        have tt : decide (t ≤ t) = true := decide_eq_true (Nat.le_refl _)
        refine ⟨fun z => absurd z (by omega), fun _ => ⟨fun z => ?_, fun z => ⟨fun z2 => ?_, fun z2 => ?_⟩⟩⟩
        · refine fin3 u.1 u.2 S' L' u1 u2 u3 u4 u5 u6 u7 u8 u9 (fun a ha hlt => ?_)
          by_cases e : a = t
          · rw [e] at ha; rw [ha, tt] at z; cases z
          · exact u10 a ha (by omega)
        · refine fin3 u.1 u.2 S' L' u1 u2 u3 u4 u5 u6 u7 u8 u9 (fun a ha hlt => ?_)
          by_cases e : a = t
          · rw [e]
            cases q : L' t with
            | true => rfl
            | false => exact absurd q z2
          · exact u10 a ha (by omega)
        · have Mt : M t = true := by
            cases q : M t with
            | true => rfl
            | false => rw [q] at z; exact absurd rfl z
          have c9 := cnt_1 (p := L') (p' := fun a => if a = t then true else L' a) (b := t) (bma B) tl (fun i _ ne => (if_neg ne).symm) z2 (if_pos rfl)
          have cl9 := cnt_le (fun a => if a = t then true else L' a) (bma B)
          simp (disch := omega) only [i32_lit, l64_lit, lc_eq, lc_ge, lc_le, lc_gt, lc_lt, jL_inj, jL_add, jL_sub, jL_mul, jL_neg, jL_and, jL_or, jL_xor, jL_mone, BitVec.xor_allOnes, nI_clamp, nI_ltI, nI_leI, nI_eq, nI_1, nI_add, nI_sub, nI_addm, nI_mul, vp_in_n, xi_pi, xi_pl, xl_pi, xl_pl, xb_pi, xb_pl, xqi_i, xql_l, xqv_v, xqi_e, xql_e, xqv_e, forall_eq, true_and, and_true]
          have oA := (oN.pi u.2 37 t (nI 1)).up (I' := [33, 34, 35, 36, 37]) (L' := [41]) (by decide) (by decide)
          have oB := (oN.pi (xpi u.2 37 t (nI 1)) 33 u.1 (nI t)).up (I' := [33, 34, 35, 36, 37]) (L' := [41]) (by decide) (by decide)
          have oAB := u1.trans (oA.trans oB)
          have r5 := oAB.rc iI iL h
          have i9 : ∀ c b, c ≠ 37 → c ≠ 33 → xi (xpi (xpi u.2 37 t (nI 1)) 33 u.1 (nI t)) c b = xi u.2 c b := fun c b h1 h2 => by rw [xi_pi, if_neg (fun z => h2 z.1), xi_pi, if_neg (fun z => h1 z.1)]
          have sonW : ∀ i, bfi B t ≤ i → i < bfi B (t + 1) → xl u.2 41 (bar B i) = jL (ev B J (bar B i)) ∧ (bop B (bar B i) ≠ 47 → L' (bar B i) = true) := fun i i1 i2 => by
            have lt2 := wf_ar w tl i1 i2
            by_cases h7 : bop B (bar B i) = 47
            · obtain ⟨y1, y2⟩ := th_of w (by omega) h7
              have := u3 _ y1
              rw [y2] at this
              exact ⟨this, fun q => absurd h7 q⟩
            · have lt3 := u10 _ (c3.2.1 t _ Mt ⟨h7, i, i1, i2, rfl⟩) lt2
              obtain ⟨i', a1, a2⟩ := u8.2.2.2 _ (by omega) lt3
              have := u9 i' a1
              rw [a2] at this
              exact ⟨this, fun _ => lt3⟩
          refine e_workOut_40 (S := bsz B) (J := J) (v := evL B J t) r5 w tl (fun i i1 i2 => ?_) (ev_vbd w tl) hS (fun h7 => ?_) (fun σ6 x1 x2 x3 x4 => ?_)
          · rw [evL_lt B J (wf_ar w tl i1 i2)]
            exact (sonW i i1 i2).1
          · obtain ⟨y1, y2⟩ := th_of w tl h7
            have := u3 _ y1
            rw [y2] at this
            rw [← ev_eq]
            exact this
          · rw [xqv_v]
            rw [← ev_eq] at x4
            have n41 : ∀ a, a ≠ t → xl σ6 41 a = xl u.2 41 a := fun a ha => (x2 41 a (Or.inr ha))
            have o6 : oN [33, 34, 35, 36, 37] [41] σ σ6 := oAB.trans ⟨fun a b _ => x1 a b, fun a b q => x2 a b (Or.inl (fun e => q (by rw [e]; decide))), x3⟩
            have keep41 : ∀ a, xl u.2 41 a = jL (ev B J a) → xl σ6 41 a = jL (ev B J a) := fun a ha => by
              by_cases e : a = t
              · rw [e]; exact x4
              · rw [n41 a e]; exact ha
            refine fin3 (u.1 + 1) σ6 (fun i => if i = u.1 then t else S' i) (fun a => if a = t then true else L' a) o6 (fun a ha => (x1 36 a).trans ((i9 36 a (by decide) (by decide)).trans (u2 a ha))) (fun i hi => keep41 _ (u3 i hi)) (fun b hb => ⟨(x1 34 b).trans ((i9 34 b (by decide) (by decide)).trans (u4 b hb).1), (x1 35 b).trans ((i9 35 b (by decide) (by decide)).trans (u4 b hb).2)⟩) (by omega) (fun i hi => by show (if i = u.1 then t else S' i) = S i; rw [if_neg (by omega)]; exact u6 i hi) (fun a ha => ?_) ⟨by rw [c9]; omega, fun i hi => ?_, fun i i' hi hi' e => ?_, fun a ha q => ?_⟩ (fun i hi => ?_) (fun a ha hlt => ?_)
            · rw [x1 37 a, xi_pi, if_neg (by omega), xi_pi]
              show _ = nI (if (if a = t then true else L' a) = true then 1 else 0)
              by_cases e : a = t
              · rw [if_pos ⟨rfl, e⟩, if_pos e]; rfl
              · rw [if_neg (fun z => e z.2), if_neg e]; exact u7 a ha
            · show xi σ6 33 i = nI (if i = u.1 then t else S' i) ∧ (if i = u.1 then t else S' i) < bma B ∧ (if (if i = u.1 then t else S' i) = t then true else L' (if i = u.1 then t else S' i)) = true ∧ ∀ a, sonOf B (if i = u.1 then t else S' i) a → ∃ i', i' < i ∧ (if i' = u.1 then t else S' i') = a
              by_cases e : i = u.1
              · rw [if_pos e]
                refine ⟨?_, tl, if_pos rfl, fun a ha => ?_⟩
                · rw [x1 33 i, xi_pi, if_pos ⟨rfl, e⟩]
                · obtain ⟨h7, b, b1, b2, b3⟩ := ha
                  have lt3 := (sonW b b1 b2).2 (by rw [b3]; exact h7)
                  rw [b3] at lt3
                  obtain ⟨i', a1, a2⟩ := u8.2.2.2 a (by have := wf_ar w tl b1 b2; omega) lt3
                  exact ⟨i', by omega, by rw [if_neg (by omega)]; exact a2⟩
              · rw [if_neg e]
                obtain ⟨a1, a2, a3, a4⟩ := u8.2.1 i (by omega)
                refine ⟨?_, a2, ?_, fun a ha => ?_⟩
                · rw [x1 33 i, xi_pi, if_neg (fun z => e z.2), xi_pi, if_neg (by omega)]; exact a1
                · rw [a3]; split <;> rfl
                · obtain ⟨i', b1, b2⟩ := a4 a ha
                  exact ⟨i', b1, by rw [if_neg (by omega)]; exact b2⟩
            · have e : (if i = u.1 then t else S' i) = (if i' = u.1 then t else S' i') := e
              have ne : ∀ x, x < u.1 → S' x ≠ t := fun x hx q => by
                have := (u8.2.1 x hx).2.2.1
                rw [q, z2] at this
                cases this
              by_cases e1 : i = u.1
              · by_cases e2 : i' = u.1
                · omega
                · rw [if_pos e1, if_neg e2] at e
                  exact absurd e.symm (ne i' (by omega))
              · by_cases e2 : i' = u.1
                · rw [if_neg e1, if_pos e2] at e
                  exact absurd e (ne i (by omega))
                · rw [if_neg e1, if_neg e2] at e
                  exact u8.2.2.1 i i' (by omega) (by omega) e
            · have q : (if a = t then true else L' a) = true := q
              show ∃ i, i < u.1 + 1 ∧ (if i = u.1 then t else S' i) = a
              by_cases e : a = t
              · exact ⟨u.1, by omega, by rw [if_pos rfl, e]⟩
              · rw [if_neg e] at q
                obtain ⟨i, a1, a2⟩ := u8.2.2.2 a ha q
                exact ⟨i, by omega, by rw [if_neg (by omega)]; exact a2⟩
            · show xl σ6 41 (if i = u.1 then t else S' i) = jL (ev B J (if i = u.1 then t else S' i))
              by_cases e : i = u.1
              · rw [if_pos e]; exact x4
              · rw [if_neg e]; exact keep41 _ (u9 i (by omega))
            · show (if a = t then true else L' a) = true
              by_cases e : a = t
              · rw [if_pos e]
              · rw [if_neg e]; exact u10 a ha (by omega)
  · obtain ⟨a1, a2⟩ := hI
    have r := a1.rc (by decide) h
    unfold w_Search_listSteps_2
    simp (disch := omega) only [i32_lit, l64_lit, lc_eq, lc_ge, lc_le, lc_gt, lc_lt, jL_inj, jL_add, jL_sub, jL_mul, jL_neg, jL_and, jL_or, jL_xor, jL_mone, BitVec.xor_allOnes, nI_clamp, nI_ltI, nI_leI, nI_eq, nI_1, nI_add, nI_sub, nI_addm, nI_mul, vp_in_n, xi_pi, xi_pl, xl_pi, xl_pl, xb_pi, xb_pl, xqi_i, xql_l, xqv_v, xqi_e, xql_e, xqv_e, forall_eq, true_and, and_true, r.1.1, nar_0]
    refine ⟨fun z => absurd z (by omega), fun _ => hs2 _ ⟨a1.trans (onlyI.pi _ _ _ _), fun t ht => ?_⟩⟩
    rw [xi_pi]
    by_cases e : t = i
    · rw [if_pos ⟨rfl, e⟩]; rfl
    · rw [if_neg (fun z => e z.2)]; exact a2 t (by omega)
end STEPS
