/-! THE REFERENCE READS: sorts, and a term of a sort -/
section RSO
variable {c : Nat → Nat} {l N : Nat} {B : Bk} {i j p h nb m n : Nat} {σ σ' : xS} {Q : xO → xS → Prop} {e : Nat × Nat}
theorem RFl.pj {b : Nat} {x : Int32} (f : RFl B e σ σ') (h : b = 53 ∨ b = 54 ∨ b = 55 ∨ b = 56 ∨ b = 57) : RFl B e σ (xpi σ' 50 b x) := by
  refine f.post (oS.pi _ _ _ _ (by unfold rcl; omega)) (by rw [xi_pi, if_neg (by omega)]) (by rw [xi_pi, if_neg (by omega)]) (by rw [xi_pi, if_neg (by omega)]) (fun j hj => ?_) (fun k j hk => by rw [xi_pi, if_neg (by omega)]) (fun j => xl_pi _ _ _ _ _ _)
  have hj : j = 11 ∨ j = 21 ∨ j = 23 ∨ j = 27 ∨ j = 42 ∨ j = 44 ∨ j = 45 := by simpa using hj
  rw [xi_pi, if_neg (by omega)]
theorem n_237 {t0 : Int32} (f : RFl B e σ σ') (k : ∀ s, RFl B e σ s → Q (.inl none) s) : w_VectorSolverModel_readSort_237 Q t0 σ' := by
  unfold w_VectorSolverModel_readSort_237
  refine n_num f.X ?_
  rw [xqi_i]
  intro s11 e11
  have f1 : RFl B e σ s11 := by rw [e11]; exact f.pj (.inr (.inl rfl))
  refine n_need f1.X ?_
  rw [xqi_i]
  exact k _ f1
theorem n_161 {t0 : Int32} (f : RFl B e σ σ') (k : ∀ s, RFl B e σ s → Q (.inl none) s) : w_VectorSolverModel_readSort_161 Q t0 σ' := by
  unfold w_VectorSolverModel_readSort_161
  refine n_num f.X ?_
  rw [xqi_i]
  intro s11 e11
  have f1 : RFl B e σ s11 := by rw [e11]; exact f.pj (.inr (.inl rfl))
  refine n_need f1.X ?_
  rw [xqi_i]
  exact ⟨fun _ => k _ f1, fun z => absurd rfl z⟩
theorem n_109 {t0 : Int32} (f : RFl B e σ σ') (k : ∀ s, RFl B e σ s → Q (.inl none) s) : w_VectorSolverModel_readSort_109 Q t0 σ' := by
  unfold w_VectorSolverModel_readSort_109
  refine n_num f.X ?_
  rw [xqi_i]
  intro s11 e11
  have f1 : RFl B e σ s11 := by rw [e11]; exact f.pj (.inl rfl)
  refine n_need f1.X ?_
  rw [xqi_i]
  refine ⟨fun _ => ?_, fun z => absurd rfl z⟩
  unfold w_VectorSolverModel_readSort_160
  exact n_161 f1 k
theorem n_73 {t0 : Int32} (f : RFl B e σ σ') (k : ∀ s, RFl B e σ s → Q (.inl none) s) : w_VectorSolverModel_readSort_73 Q t0 σ' := by
  have w : ∀ t1, w_VectorSolverModel_readSort_217 Q t1 σ' := fun t1 => by
    unfold w_VectorSolverModel_readSort_217
    refine n_must f.X ?_
    rw [xqi_i]
    refine ⟨fun _ => ?_, fun z => absurd rfl z⟩
    unfold w_VectorSolverModel_readSort_236
    exact n_237 f k
  unfold w_VectorSolverModel_readSort_73
  refine ⟨fun _ => ⟨f.X.v, fun _ => w _, fun _ => w _⟩, fun _ => ?_⟩
  refine n_need f.X ?_
  rw [xqi_i]
  refine ⟨fun _ => ?_, fun z => absurd rfl z⟩
  unfold w_VectorSolverModel_readSort_108
  exact n_109 f k
theorem pWd_1 {most : Nat} (h : pXR c l i 5 = .error e) : pWd c l i most = .error e := eb_er h
theorem pWd_2 {most : Nat} (h : pXR c l i 5 = .ok ()) (h2 : pN c l (i + 1) 1 most = .error e) : pWd c l i most = .error e := (eb_ok h).trans (eb_er h2)
theorem pWd_3 {most w : Nat} (h : pXR c l i 5 = .ok ()) (h2 : pN c l (i + 1) 1 most = .ok w) (h3 : pX c l (i + 2) 1 = .error e) : pWd c l i most = .error e := (eb_ok h).trans ((eb_ok h2).trans (eb_er h3))
theorem pWd_k {most w : Nat} (h : pXR c l i 5 = .ok ()) (h2 : pN c l (i + 1) 1 most = .ok w) (h3 : pX c l (i + 2) 1 = .ok ()) : pWd c l i most = .ok w := (eb_ok h).trans ((eb_ok h2).trans (eb_ok h3))
theorem oE.p2 {J : List Nat} {σ2 : xS} (h : oE [10] σ σ') (h2 : oE J σ' σ2) (hJ : ∀ x ∈ [10], x ∈ J) : oE J σ σ2 := (h.up hJ).trans h2
theorem r_sort (H : okN c l N) (S : RS c l N B j σ) (kf : ∀ e σ', pSo c l j = .error e → RFl B e σ σ' → Q (.inl none) σ') (ko : ∀ s k σ', pSo c l j = .ok (s, k) → RS c l N B k σ' → xi σ' 50 53 = nI (s / 128) → xi σ' 50 54 = nI (s % 128) → oE [10, 53, 54] σ σ' → Q (.inl none) σ') : wp_VectorSolverModel_readSort Q σ := by
  have n1 := H.1
  have hj := S.2.2.2.2.2.2.1
  have vj : vp_in (nI j) 65537 := vp_in_nI (by omega) (by decide)
  obtain ⟨X, hX⟩ : ∃ X, X = pSo c l j := ⟨_, rfl⟩
  rw [← hX] at kf ko
  unfold pSo at hX
  unfold wp_VectorSolverModel_readSort
  intro s1 e1 s2 e2
  have o2 : oE [10, 53, 54] σ s2 := by rw [e2, e1]; exact (oE.pi _ _ _ (by decide)).trans (oE.pi _ _ _ (by decide))
  have x53 : xi s2 50 53 = nI 0 := by rw [e2, xi_pi, if_neg (by decide), e1, xi_pi, if_pos ⟨rfl, rfl⟩]; rfl
  have x54 : xi s2 50 54 = nI 0 := by rw [e2, xi_pi, if_pos ⟨rfl, rfl⟩]; rfl
  have o2' : oE [53, 54] σ s2 := by rw [e2, e1]; exact (oE.pi _ _ _ (by decide)).trans (oE.pi _ _ _ (by decide))
  clear e1 e2
  have S2 : RS c l N B j s2 := S.e o2' (by decide)
  have t2 := S2.2.1.t (j := j) hj
  have t1 := (tK_32 (j := j) H).1
  have fe : ∀ e s s', X = .error e → oE [10, 53, 54] σ s → RFl B e s s' → Q (.inl none) s' := fun e s s' hx o f => kf e s' hx (RFl.e o (by decide) f)
  rw [S2.2.2.2.2.2.1, nI_clamp (n := j) (by omega), t2.2.2.2, show (42 : Int32) = nI (ridx 3) from rfl, rix_eq (fun m h => tR_lt h) (by decide), t2.1, show (1 : Int32) = nI (0 + 1) from rfl, rk_k _ t1 0 (by decide)]
  refine ⟨vj, fun z => ?_, fun z => ⟨vj, fun y => ?_, fun y => ?_⟩⟩
  · rw [if_pos z] at hX
    exact ko 0 j s2 hX S2 x53 x54 o2
  · rw [if_neg z] at hX
    unfold w_VectorSolverModel_readSort_43
    refine r_mustF H S2 rfl (fun s' f => ?_)
    rw [xqi_i]
    exact ⟨fun w => absurd rfl w, fun _ => fe _ s2 s' (hX.trans (eb_er (if_neg y))) o2 f⟩
  rw [if_neg z] at hX
  have hp : pX c l j 0 = .ok () := if_pos y
  rw [eb_ok hp] at hX
  have b0 := H.lt (i := j) hj (by omega)
  unfold w_VectorSolverModel_readSort_43
  refine r_mustT H S2 (by decide) ?_
  rw [xqi_i]
  refine ⟨fun _ => ?_, fun w => absurd w (by decide)⟩
  refine r_next H (S2.n b0) (fun s' w f => ?_) (fun s3 S3 o3 => ?_)
  · rw [xqv_v]
    have nr := tR_bad w
    have hx : X = .error (badT c l (j + 1)) := by
      rw [hX, if_neg (by rw [nr]; simp)]
      exact eb_er (if_neg (by rw [nr]; simp))
    have k := fun s f' => fe (badT c l (j + 1)) s2 s hx o2 f'
    exact ⟨f.X.v, fun _ => n_73 f k, fun _ => n_73 f k⟩
  have O3 : oE [10, 53, 54] σ s3 := o2.trans (o3.up (by decide))
  have hj1 := S3.2.2.2.2.2.2.1
  have t3 := S3.2.1.t (j := j + 1) hj1
  have v1 : vp_in (nI (j + 1)) 65537 := vp_in_nI (by omega) (by decide)
  have y53 : xi s3 50 53 = nI 0 := (o3.at (by decide)).trans x53
  rw [xqv_v, S3.2.2.2.2.2.1, nI_clamp (n := j + 1) (by omega), t3.2.2.2, show (45 : Int32) = nI (ridx 6) from rfl, rix_eq (fun m h => tR_lt h) (by decide)]
  refine ⟨v1, fun w => ?_, fun w => ?_⟩
  · -- a vector
    unfold w_VectorSolverModel_readSort_73
    rw [S3.2.2.2.2.2.1, nI_clamp (n := j + 1) (by omega), t3.2.2.2, show (43 : Int32) = nI (ridx 4) from rfl, rix_eq (fun m h => tR_lt h) (by decide)]
    refine ⟨fun _ => ⟨v1, fun x => ?_, fun x => ?_⟩, fun x => absurd rfl x⟩
    · rw [if_neg x] at hX
      have hx : X = .error (badT c l (j + 1)) := hX.trans (eb_er (if_neg w))
      unfold w_VectorSolverModel_readSort_217
      refine r_mustF H S3 rfl (fun s' f => ?_)
      rw [xqi_i]
      refine ⟨fun _ => ?_, fun v => absurd rfl v⟩
      unfold w_VectorSolverModel_readSort_236
      exact n_237 f (fun s f' => fe _ s3 s hx O3 f')
    · rw [if_pos x] at hX
      have k1 := (tok_R x).1
      have b1 := H.lt (i := j + 1) hj1 (by omega)
      unfold w_VectorSolverModel_readSort_217
      refine r_mustT H S3 (by decide) ?_
      rw [xqi_i]
      refine ⟨fun v => absurd v (by decide), fun _ => ?_⟩
      refine r_needW (r0 := 5) H (by decide) (S3.n b1) (fun e s' he f => ?_) (fun s4 h4 S4 o4 => ?_)
      · rw [xqi_i]
        refine ⟨fun _ => ?_, fun v => absurd rfl v⟩
        unfold w_VectorSolverModel_readSort_236
        exact n_237 f (fun s f' => fe _ s3 s (hX.trans (eb_er (pWd_1 he))) O3 f')
      rw [xqi_i]
      refine ⟨fun v => absurd v (by decide), fun _ => ?_⟩
      have h4 : pXR c l (j + 2) 5 = .ok () := h4
      have S4 : RS c l N B (j + 2) s4 := S4
      have k2 := (tok_R (pXR_i h4)).1
      have b2 := H.lt (i := j + 2) S4.2.2.2.2.2.2.1 (by omega)
      have O4 : oE [10, 53, 54] σ s4 := O3.trans (o4.up (by decide))
      unfold w_VectorSolverModel_readSort_237
      refine r_num (lo := 1) (hi := 64) H (by decide) (by decide) (S4.n b2) (fun e s' he f => ?_) (fun wd s5 h5 S5 o5 => ?_)
      · rw [xqi_i]
        intro s11 e11
        have f1 : RFl B e s4 s11 := by rw [e11]; exact f.pj (.inr (.inl rfl))
        refine n_need f1.X ?_
        rw [xqi_i]
        exact fe _ s4 s11 (hX.trans (eb_er (pWd_2 h4 he))) O4 f1
      rw [xqi_i]
      intro s11 e11
      obtain ⟨k3, w1, w2, _⟩ := pN_i h5
      have b3 := H.lt (i := j + 3) S5.2.2.2.2.2.2.1 (by have : tK c l (j + 3) = 2 := k3; omega)
      have o11 : oE [54] s5 s11 := by rw [e11]; exact oE.pi _ _ _ (by decide)
      have z54 : xi s11 50 54 = nI wd := by rw [e11, xi_pi, if_pos ⟨rfl, rfl⟩]
      have O11 : oE [10, 53, 54] σ s11 := (O4.trans (o5.up (by decide))).trans (o11.up (by decide))
      have S11 : RS c l N B (j + 3) s11 := S5.e o11 (by decide)
      have z53 : xi s11 50 53 = nI 0 := by rw [o11.at (by decide), o5.at (by decide), o4.at (by decide)]; exact y53
      clear e11
      refine r_need (k0 := 1) H (by decide) (S11.n b3) (fun e s' he f => ?_) (fun s12 h12 S12 o12 => ?_)
      · rw [xqi_i]
        exact fe _ s11 s' (hX.trans (eb_er (pWd_3 h4 h5 he))) O11 f
      · rw [xqi_i]
        refine ko wd (j + 4) s12 (hX.trans (eb_ok (pWd_k h4 h5 h12))) S12 ?_ ?_ (O11.trans (o12.up (by decide)))
        · rw [o12.at (by decide), z53, show wd / 128 = 0 by omega]
        · rw [o12.at (by decide), z54, show wd % 128 = wd by omega]
  · -- an array
    have k1 := (tok_R w).1
    have b1 := H.lt (i := j + 1) hj1 (by omega)
    rw [if_neg (by rw [w]; simp)] at hX
    have hw : pXR c l (j + 1) 6 = .ok () := if_pos w
    rw [eb_ok hw] at hX
    unfold w_VectorSolverModel_readSort_73
    refine ⟨fun v => absurd v (by decide), fun _ => ?_⟩
    have t108 : ∀ e s s', X = .error e → oE [10, 53, 54] σ s → RFl B e s s' → w_VectorSolverModel_readSort_108 Q s' := fun e s s' hx o f => by
      unfold w_VectorSolverModel_readSort_108
      exact n_109 f (fun s'' f' => fe e s s'' hx o f')
    have t160 : ∀ e s s', X = .error e → oE [10, 53, 54] σ s → RFl B e s s' → w_VectorSolverModel_readSort_160 Q s' := fun e s s' hx o f => by
      unfold w_VectorSolverModel_readSort_160
      exact n_161 f (fun s'' f' => fe e s s'' hx o f')
    refine r_need (k0 := 0) H (by decide) (S3.n b1) (fun e s' he f => ?_) (fun s4 h4 S4 o4 => ?_)
    · rw [xqi_i]
      exact ⟨fun _ => t108 e s3 s' (hX.trans (eb_er he)) O3 f, fun v => absurd rfl v⟩
    have h4 : pX c l (j + 2) 0 = .ok () := h4
    have S4 : RS c l N B (j + 2) s4 := S4
    rw [eb_ok h4] at hX
    have k2 := pX_i h4
    have b2 := H.lt (i := j + 2) S4.2.2.2.2.2.2.1 (by omega)
    have O4 : oE [10, 53, 54] σ s4 := O3.trans (o4.up (by decide))
    rw [xqi_i]
    refine ⟨fun v => absurd v (by decide), fun _ => ?_⟩
    refine r_needW (r0 := 4) H (by decide) (S4.n b2) (fun e s' he f => ?_) (fun s5 h5 S5 o5 => ?_)
    · rw [xqi_i]
      exact ⟨fun _ => t108 e s4 s' (hX.trans (eb_er he)) O4 f, fun v => absurd rfl v⟩
    have h5 : pXR c l (j + 3) 4 = .ok () := h5
    have S5 : RS c l N B (j + 3) s5 := S5
    rw [eb_ok h5] at hX
    have k3 := (tok_R (pXR_i h5)).1
    have b3 := H.lt (i := j + 3) S5.2.2.2.2.2.2.1 (by omega)
    have O5 : oE [10, 53, 54] σ s5 := O4.trans (o5.up (by decide))
    rw [xqi_i]
    refine ⟨fun v => absurd v (by decide), fun _ => ?_⟩
    refine r_needW (r0 := 5) H (by decide) (S5.n b3) (fun e s' he f => ?_) (fun s6 h6 S6 o6 => ?_)
    · rw [xqi_i]
      exact ⟨fun _ => t108 e s5 s' (hX.trans (eb_er (pWd_1 he))) O5 f, fun v => absurd rfl v⟩
    have h6 : pXR c l (j + 4) 5 = .ok () := h6
    have S6 : RS c l N B (j + 4) s6 := S6
    have k4 := (tok_R (pXR_i h6)).1
    have b4 := H.lt (i := j + 4) S6.2.2.2.2.2.2.1 (by omega)
    have O6 : oE [10, 53, 54] σ s6 := O5.trans (o6.up (by decide))
    rw [xqi_i]
    refine ⟨fun v => absurd v (by decide), fun _ => ?_⟩
    unfold w_VectorSolverModel_readSort_109
    refine r_num (lo := 1) (hi := 6) H (by decide) (by decide) (S6.n b4) (fun e s' he f => ?_) (fun iw s7 h7 S7 o7 => ?_)
    · rw [xqi_i]
      intro s20 e20
      have f1 : RFl B e s6 s20 := by rw [e20]; exact f.pj (.inl rfl)
      refine n_need f1.X ?_
      rw [xqi_i]
      exact ⟨fun _ => t160 e s6 s20 (hX.trans (eb_er (pWd_2 h6 he))) O6 f1, fun v => absurd rfl v⟩
    have h7 : pN c l (j + 5) 1 6 = .ok iw := h7
    have S7 : RS c l N B (j + 5) s7 := S7
    obtain ⟨k5, w1, w2, _⟩ := pN_i h7
    have b5 := H.lt (i := j + 5) S7.2.2.2.2.2.2.1 (by omega)
    rw [xqi_i]
    intro s20 e20
    have o20 : oE [53] s7 s20 := by rw [e20]; exact oE.pi _ _ _ (by decide)
    have z53 : xi s20 50 53 = nI iw := by rw [e20, xi_pi, if_pos ⟨rfl, rfl⟩]
    clear e20
    have O20 : oE [10, 53, 54] σ s20 := (O6.trans (o7.up (by decide))).trans (o20.up (by decide))
    have S20 : RS c l N B (j + 5) s20 := S7.e o20 (by decide)
    refine r_need (k0 := 1) H (by decide) (S20.n b5) (fun e s' he f => ?_) (fun s8 h8 S8 o8 => ?_)
    · rw [xqi_i]
      exact ⟨fun _ => t160 e s20 s' (hX.trans (eb_er (pWd_3 h6 h7 he))) O20 f, fun v => absurd rfl v⟩
    have h8 : pX c l (j + 6) 1 = .ok () := h8
    have S8 : RS c l N B (j + 6) s8 := S8
    rw [eb_ok (pWd_k h6 h7 h8)] at hX
    have k6 := pX_i h8
    have b6 := H.lt (i := j + 6) S8.2.2.2.2.2.2.1 (by omega)
    have O8 : oE [10, 53, 54] σ s8 := O20.trans (o8.up (by decide))
    rw [xqi_i]
    refine ⟨fun v => absurd v (by decide), fun _ => ?_⟩
    refine r_need (k0 := 0) H (by decide) (S8.n b6) (fun e s' he f => ?_) (fun s9 h9 S9 o9 => ?_)
    · rw [xqi_i]
      exact ⟨fun _ => t160 e s8 s' (hX.trans (eb_er he)) O8 f, fun v => absurd rfl v⟩
    have h9 : pX c l (j + 7) 0 = .ok () := h9
    have S9 : RS c l N B (j + 7) s9 := S9
    rw [eb_ok h9] at hX
    have k7 := pX_i h9
    have b7 := H.lt (i := j + 7) S9.2.2.2.2.2.2.1 (by omega)
    have O9 : oE [10, 53, 54] σ s9 := O8.trans (o9.up (by decide))
    rw [xqi_i]
    refine ⟨fun v => absurd v (by decide), fun _ => ?_⟩
    refine r_needW (r0 := 4) H (by decide) (S9.n b7) (fun e s' he f => ?_) (fun s10 h10 S10 o10 => ?_)
    · rw [xqi_i]
      exact ⟨fun _ => t160 e s9 s' (hX.trans (eb_er he)) O9 f, fun v => absurd rfl v⟩
    have h10 : pXR c l (j + 8) 4 = .ok () := h10
    have S10 : RS c l N B (j + 8) s10 := S10
    rw [eb_ok h10] at hX
    have k8 := (tok_R (pXR_i h10)).1
    have b8 := H.lt (i := j + 8) S10.2.2.2.2.2.2.1 (by omega)
    have O10 : oE [10, 53, 54] σ s10 := O9.trans (o10.up (by decide))
    rw [xqi_i]
    refine ⟨fun v => absurd v (by decide), fun _ => ?_⟩
    refine r_needW (r0 := 5) H (by decide) (S10.n b8) (fun e s' he f => ?_) (fun s11 h11 S11 o11 => ?_)
    · rw [xqi_i]
      exact ⟨fun _ => t160 e s10 s' (hX.trans (eb_er (pWd_1 he))) O10 f, fun v => absurd rfl v⟩
    have h11 : pXR c l (j + 9) 5 = .ok () := h11
    have S11 : RS c l N B (j + 9) s11 := S11
    have k9 := (tok_R (pXR_i h11)).1
    have b9 := H.lt (i := j + 9) S11.2.2.2.2.2.2.1 (by omega)
    have O11 : oE [10, 53, 54] σ s11 := O10.trans (o11.up (by decide))
    rw [xqi_i]
    refine ⟨fun v => absurd v (by decide), fun _ => ?_⟩
    unfold w_VectorSolverModel_readSort_161
    refine r_num (lo := 1) (hi := 64) H (by decide) (by decide) (S11.n b9) (fun e s' he f => ?_) (fun wd s12 h12 S12 o12 => ?_)
    · rw [xqi_i]
      intro s25 e25
      have f1 : RFl B e s11 s25 := by rw [e25]; exact f.pj (.inr (.inl rfl))
      refine n_need f1.X ?_
      rw [xqi_i]
      exact ⟨fun _ => fe e s11 s25 (hX.trans (eb_er (pWd_2 h11 he))) O11 f1, fun v => absurd rfl v⟩
    have h12 : pN c l (j + 10) 1 64 = .ok wd := h12
    have S12 : RS c l N B (j + 10) s12 := S12
    obtain ⟨k10, w3, w4, _⟩ := pN_i h12
    have b10 := H.lt (i := j + 10) S12.2.2.2.2.2.2.1 (by omega)
    rw [xqi_i]
    intro s25 e25
    have o25 : oE [54] s12 s25 := by rw [e25]; exact oE.pi _ _ _ (by decide)
    have z54 : xi s25 50 54 = nI wd := by rw [e25, xi_pi, if_pos ⟨rfl, rfl⟩]
    clear e25
    have O25 : oE [10, 53, 54] σ s25 := (O11.trans (o12.up (by decide))).trans (o25.up (by decide))
    have S25 : RS c l N B (j + 10) s25 := S12.e o25 (by decide)
    refine r_need (k0 := 1) H (by decide) (S25.n b10) (fun e s' he f => ?_) (fun s13 h13 S13 o13 => ?_)
    · rw [xqi_i]
      exact ⟨fun _ => fe e s25 s' (hX.trans (eb_er (pWd_3 h11 h12 he))) O25 f, fun v => absurd rfl v⟩
    have h13 : pX c l (j + 11) 1 = .ok () := h13
    have S13 : RS c l N B (j + 11) s13 := S13
    rw [eb_ok (pWd_k h11 h12 h13)] at hX
    have k11 := pX_i h13
    have b11 := H.lt (i := j + 11) S13.2.2.2.2.2.2.1 (by omega)
    have O13 : oE [10, 53, 54] σ s13 := O25.trans (o13.up (by decide))
    rw [xqi_i]
    refine ⟨fun v => absurd v (by decide), fun _ => ?_⟩
    refine r_need (k0 := 1) H (by decide) (S13.n b11) (fun e s' he f => ?_) (fun s14 h14 S14 o14 => ?_)
    · rw [xqi_i]
      exact ⟨fun _ => fe e s13 s' (hX.trans (eb_er he)) O13 f, fun v => absurd rfl v⟩
    · rw [xqi_i]
      have h14 : pX c l (j + 12) 1 = .ok () := h14
      have k := ko (128 * iw + wd) (j + 12) s14 (hX.trans (eb_ok h14)) S14 (by rw [o14.at (by decide), o13.at (by decide), o25.at (by decide), o12.at (by decide), o11.at (by decide), o10.at (by decide), o9.at (by decide), o8.at (by decide), z53, show (128 * iw + wd) / 128 = iw by omega]) (by rw [o14.at (by decide), o13.at (by decide), z54, show (128 * iw + wd) % 128 = wd by omega]) (O13.trans (o14.up (by decide)))
      exact ⟨fun _ => k, fun _ => k⟩
theorem n_told {a1 a2 : Int32} (h : RX σ) (k : Q (.inl (some (.int 0))) σ) : wp_VectorSolverModel_told Q σ a1 a2 := by
  unfold wp_VectorSolverModel_told
  refine n_next h ?_
  rw [xqv_v]
  exact ⟨fun z => absurd z h.2.2, fun _ => k⟩
/-- a term of a sort -/
theorem r_told {so : Nat} (H : okN c l N) (g : gB B) (S : RS0 c l N B j σ) (ho : od c l j = 70001) (hso : so < 1024) (kf : ∀ e σ' t, (eb (pTm c l 59 [] 0 B j) fun r => if bso r.2.1 r.1 = so then .ok r else .error (9, tF c l j)) = .error e → RFl B e σ σ' → Q (.inl (some (.int t))) σ')
    (ko : ∀ r σ', pTm c l 59 [] 0 B j = .ok r → bso r.2.1 r.1 = so → RS c l N r.2.1 r.2.2 σ' → xi σ' 50 55 = nI (tF c l j) → oS σ σ' → Q (.inl (some (.int (nI r.1)))) σ') : wp_VectorSolverModel_told Q σ (nI (so / 128)) (nI (so % 128)) := by
  have n1 := H.1
  unfold wp_VectorSolverModel_told
  refine r_next H S (fun s' z f => ?_) (fun s1 S1 o1 => ?_)
  · rw [xqv_v]
    exact ⟨fun y => absurd y f.X.2.2, fun _ => kf _ s' _ (eb_er (pTm_bad z)) f⟩
  have hj := S1.2.2.2.2.2.2.1
  have vj : vp_in (nI j) 65537 := vp_in_nI (by omega) (by decide)
  have t1 := S1.2.1.t (j := j) hj
  rw [xqv_v, S1.2.2.2.1, S1.2.2.2.2.2.1, nI_clamp (n := j) (by omega), t1.2.1]
  refine ⟨fun _ => ⟨vj, fun x3 e3 => ?_⟩, fun z => absurd (Int32.le_refl _) z⟩
  subst e3
  have o1S : oS σ s1 := o1.S (fun b hb => jR_rcl b (by revert b; decide))
  have w78 : ∀ e (s : xS) (t t0 : Int32), (eb (pTm c l 59 [] 0 B j) fun r => if bso r.2.1 r.1 = so then .ok r else .error (9, tF c l j)) = .error e → RFl B e σ s → w_VectorSolverModel_told_78 Q (nI (tF c l j)) t t0 s := fun e s t t0 he f => by
    unfold w_VectorSolverModel_told_78
    intro s6 e6
    exact kf e s6 t he (by rw [e6]; exact f.pj (.inr (.inr (.inl rfl))))
  refine r_term H g S1 ho (fun e s' t he f => ?_) (fun r s2 hr S2 o2 => ?_)
  · rw [xqi_i]
    refine ⟨fun _ => ?_, fun z => absurd (Int32.not_le.mp f.X.2.2) z⟩
    unfold w_VectorSolverModel_told_73
    exact w78 e s' t 1 (eb_er he) (RFl.pre o1S (bex.refl _) f)
  obtain ⟨q1, q2, q3, q4, q5, q6⟩ := pTm_ok H 59 [] _ _ j _ (by decide) g (fun e he => absurd he (by simp)) hj hr
  have ma := wf_ma q1.1
  have ok := wf_so q1.1 q3
  unfold okS at ok
  have vt : vp_in (nI r.1) 2000 := vp_in_nI (by omega) (by decide)
  have no : ¬ bso r.2.1 r.1 = so → w_VectorSolverModel_told_63 Q (nI (tF c l j)) (nI r.1) s2 := fun z => by
    have hi2 := S2.2.2.2.2.2.2.1
    unfold w_VectorSolverModel_told_63 w_VectorSolverModel_told_64
    refine r_wantF (B := r.2.1) (ek := 9) (ep := tF c l j) S2.2.2.1 S2.2.2.2.1 S2.2.2.2.2.2.1 (by omega) rfl rfl rfl (by decide) (fun s' f => ?_)
    rw [xqi_i]
    exact ⟨fun _ => w78 _ s' _ _ ((eb_ok hr).trans (if_neg z)) (RFl.pre (o1S.trans o2) q2.1 f), fun y => absurd rfl y⟩
  rw [xqi_i, S2.2.2.2.1, nI_clamp (n := r.1) (by omega), rr_ix S2.2.2.1 q3, rr_wi S2.2.2.1 q3, nI_eq (by omega) (by omega), nI_eq (by omega) (by omega)]
  refine ⟨fun z => absurd z (by decide), fun _ => ⟨vt, fun z => no (fun y => z (by rw [y])), fun z => ⟨vt, fun y => no (fun x => y (by rw [x])), fun y => ?_⟩⟩⟩
  unfold w_VectorSolverModel_told_64
  refine r_wantT S2.2.2.2.1 (by decide) ?_
  rw [xqi_i]
  refine ⟨fun x => absurd x (by decide), fun _ => ?_⟩
  unfold w_VectorSolverModel_told_73 w_VectorSolverModel_told_78
  intro s6 e6
  have o6 : oE [55] s2 s6 := by rw [e6]; exact oE.pi _ _ _ (by decide)
  exact ko r s6 hr (by omega) (S2.e o6 (by decide)) (by rw [e6, xi_pi, if_pos ⟨rfl, rfl⟩]) ((o1S.trans o2).trans (o6.S (fun b hb => jR_rcl b (by revert b; decide))))
end RSO
