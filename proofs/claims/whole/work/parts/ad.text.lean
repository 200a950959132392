abbrev Y_Text_init : xMth := (⟨"VectorSolver$Text", "<init>", "()V"⟩, prog_10_method_1_code, 3, none, [])
def cd_Text_init : List (Nat × Instr × Nat) := [(0, .aload_n 0, 1), (1, .invokespecial 3, 3), (4, .aload_n 0, 1), (5, .ldc 9, 2), (7, .newarray .byte, 2), (9, .putfield 10, 3), (12, .aload_n 0, 1), (13, .iconst (-1), 1), (14, .putfield 16, 3), (17, .aload_n 0, 1), (18, .ldc 20, 2), (20, .newarray .long, 2), (22, .putfield 21, 3), (25, .aload_n 0, 1), (26, .bipush 48, 2), (28, .newarray .int, 2), (30, .putfield 25, 3), (33, .iconst 0, 1), (34, .istore_n 1, 1), (35, .iconst 0, 1), (36, .istore_n 2, 1), (37, .iload_n 2, 1), (38, .ldc 29, 2), (40, .invokevirtual 31, 3), (43, .if_icmp .ge 38, 3), (46, .iload_n 1, 1), (47, .bipush 47, 2), (49, .if_icmp .ge 32, 3), (52, .ldc 29, 2), (54, .iload_n 2, 1), (55, .invokevirtual 37, 3), (58, .bipush 32, 2), (60, .if_icmp .ne 15, 3), (63, .iinc 1 1, 3), (66, .aload_n 0, 1), (67, .getfield 25, 3), (70, .iload_n 1, 1), (71, .iload_n 2, 1), (72, .iconst 1, 1), (73, .iadd, 1), (74, .iastore, 1), (75, .iinc 2 1, 3), (78, .goto (-41), 3), (81, .return_, 1)]
theorem oa_Text_init : (cd_Text_init.all fun q => decide (decode prog_10_method_1_code q.1 = .ok q.2)) = true := by decide +kernel
theorem o_Text_init (i : Nat) {pc : Nat} {ins : Instr} {len : Nat} (h : cd_Text_init[i]? = some (pc, ins, len)) : decode prog_10_method_1_code pc = .ok (ins, len) := xo oa_Text_init h
theorem yc_Text : cYc Y_Text_init 0 := ⟨⟨rfl, rfl⟩, (lw_i1 (List.mem_of_getElem? (i := 38) rfl)), (lw_i1 (List.mem_of_getElem? (i := 2) rfl)), (lw_i1 (List.mem_of_getElem? (i := 37) rfl)), rfl, by decide, by decide, by decide +kernel⟩
theorem cf_Text_10 : xFl "VectorSolver$Text" 10 1 0 := ⟨_, _, _, rfl, by decide, rfl, (lw_i1 (List.mem_of_getElem? (i := 91) rfl))⟩
theorem cf_Text_16 : xFl "VectorSolver$Text" 16 1 3 := ⟨_, _, _, rfl, by decide, rfl, (lw_i1 (List.mem_of_getElem? (i := 98) rfl))⟩
theorem cf_Text_21 : xFl "VectorSolver$Text" 21 1 4 := ⟨_, _, _, rfl, by decide, rfl, (lw_i1 (List.mem_of_getElem? (i := 100) rfl))⟩
theorem cf_Text_25 : xFl "VectorSolver$Text" 25 1 8 := ⟨_, _, _, rfl, by decide, rfl, (lw_i1 (List.mem_of_getElem? (i := 104) rfl))⟩
def po_Text (b : Nat) (w : va_W) (ty : List (ClassId × FieldType)) : Prop := ∃ (a : Nat → Nat) (k : Nat → ClassId) (g : Nat → Int32), (∀ n, n ≤ 47 → g n = nI (rf n)) ∧ w = [(b, .inr (1, [.ref (a 0), .int 0, .int 0, .int (-1), .ref (a 1), .int 0, .int 0, .int 0, .ref (a 2), .int 0, .int 0, .int 0, .int 0])), ((a 0), .inl ((k 0), 65536, .inl fun _ => 0)), ((a 1), .inl ((k 1), 65537, .inr (.inl fun _ => 0))), ((a 2), .inl ((k 2), 48, .inl g))] ∧ ty = [((k 0), .byte), ((k 1), .long), ((k 2), .int)]
abbrev rm_Text : Room := { frames := 4, cells := 21854, slots := 131124, locals := 256 }
/-! the loop over the reserved words -/
theorem W.low {p : Program} {l : Launch} {e : Env} {R : Room} {s : State} {m : MethodId} {args : Array Value} {below : List Frame} {meth : Method} {c : Code} {H : Heap} {locs locs' : List Loc} {cells slots : Nat} {Q : State → Prop} {g : JFrame} (h : ∀ y ∈ locs, y.base < s.heap.size → y ∈ locs') (k : W p l e R s m args below meth c H locs' cells slots Q g) : W p l e R s m args below meth c H locs cells slots Q g := fun T hT X =>
  k T hT { X with same := X.same.weaken h (Nat.le_refl _) (Nat.le_refl _) }
theorem xLS.narrow {C n d : String} {A B : Nat → Prop} {U : State} {H : Heap} (h : xLS C n d A U H) (hAB : ∀ q, B q → A q) : xLS C n d B U H := by
  obtain ⟨c, k, i, f, a, cell, h1, h2, h3, h4, h5, h6, h7, h8, h9, h10⟩ := h
  exact ⟨c, k, i, f, a, cell, h1, h2, h3, h4, h5, h6, h7, h8, h9, fun z => h10 (hAB a z)⟩
theorem xRo.narrow {ad : Nat → Nat} {A B : Nat → Prop} {U : State} {H : Heap} (h : xRo ad A U H) (q : ∀ a, B a → A a) : xRo ad B U H := ⟨⟨h.1.1.narrow q, h.1.2.narrow q⟩, ⟨h.2.1.1.narrow q, h.2.1.2.imp (fun z => z.narrow q) (fun z => z.narrow q)⟩, h.2.2.1.narrow q, h.2.2.2.1, h.2.2.2.2.1, h.2.2.2.2.2.1, h.2.2.2.2.2.2.1, ⟨h.2.2.2.2.2.2.2.1.1.narrow q, h.2.2.2.2.2.2.2.1.2.narrow q⟩, h.2.2.2.2.2.2.2.2⟩
theorem xRo.adr {ad ad' : Nat → Nat} {A : Nat → Prop} {U : State} {H : Heap} (e : ∀ k, 900 ≤ k → ad' k = ad k) (h : xRo ad A U H) : xRo ad' A U H := by
  have e1 : (fun i => ad' (900 + i)) = fun i => ad (900 + i) := funext fun i => e _ (by omega)
  have e2 : (fun i => ad' (910 + i)) = fun i => ad (910 + i) := funext fun i => e _ (by omega)
  refine ⟨h.1, ⟨h.2.1.1, ?_⟩, ?_, fun q hq => ?_, h.2.2.2.2⟩
  · rw [e 930 (by omega)]; exact h.2.1.2
  · rw [e1, e2]; exact h.2.2.1
  · rw [e _ (by omega)]; exact h.2.2.2.1 q hq
/-- addresses: the world's first, then as before -/
def adW (as : List Nat) (ad : Nat → Nat) : Nat → Nat := fun k => as.getD k (ad k)
theorem adW_hi {as : List Nat} {ad : Nat → Nat} {k : Nat} (h : as.length ≤ k) : adW as ad k = ad k := by simp [adW, List.getD, List.getElem?_eq_none h]
theorem xAd_of {Γ : xG} {σ : xS} {A : Nat → Prop} (hD : va_D A (xWd Γ σ)) (hB : ∀ q, A q → xbs Γ ≤ q) (hf : (xLa Γ).flags = pinnedFlags ++ [noTraceFlag]) (h9 : xad Γ 920 = xsb Γ) (hlt : xsb Γ < xbs Γ) : xAd Γ := by
  have hb : ∀ k, k < (xSp Γ).length → xbs Γ ≤ xad Γ k := fun k hk => hB _ (hD.2 k _ (xWd_at Γ σ hk))
  refine ⟨⟨fun i j hi hj e => hD.1 i j _ _ (xWd_at Γ σ hi) (xWd_at Γ σ hj) e, hb⟩, hf, h9, ?_⟩
  rintro ⟨k, hk, e⟩
  have := hb k hk
  rw [← e] at this
  omega
theorem xA_in {Γ : xG} {σ : xS} {A : Nat → Prop} (hD : va_D A (xWd Γ σ)) : ∀ q, xA Γ q → A q := by
  rintro q ⟨k, hk, rfl⟩
  exact hD.2 k _ (xWd_at Γ σ hk)
def SH2 : List xSh := [.inl (1, [some 1, none, none, none, some 2, none, none, none, some 3, none, none, none, none]), .inr (.byte, 65536), .inr (.long, 65537), .inr (.int, 48)]
def st2 (g : Nat → Int32) : xS := (fun k j => match k with
  | 0 => (match j with
    | 3 => -1
    | _ => 0)
  | 3 => g j
  | _ => 0, fun _ _ => 0, 0)
theorem st2_pi (g : Nat → Int32) (j : Nat) (v : Int32) : xpi (st2 g) 3 j v = st2 (fun b => if b = j then v else g b) := by
  have h : ∀ a b : Nat, (if a = 3 ∧ b = j then v else (st2 g).1 a b) = (st2 (fun b => if b = j then v else g b)).1 a b := by
    intro a b
    match a with
    | 0 => rw [if_neg (fun z => by cases z.1)]; rfl
    | 1 => rw [if_neg (fun z => by cases z.1)]; rfl
    | 2 => rw [if_neg (fun z => by cases z.1)]; rfl
    | 3 =>
      show (if 3 = 3 ∧ b = j then v else g b) = if b = j then v else g b
      by_cases e : b = j
      · rw [if_pos ⟨rfl, e⟩, if_pos e]
      · rw [if_neg (fun z => e z.2), if_neg e]
    | n + 4 => rw [if_neg (fun z => by omega)]; rfl
  show (fun a b => if a = 3 ∧ b = j then v else (st2 g).1 a b, (st2 g).2) = _
  rw [show (fun a b => if a = 3 ∧ b = j then v else (st2 g).1 a b) = (st2 (fun b => if b = j then v else g b)).1 from funext fun a => funext fun b => h a b]
  rfl
theorem m_Text_31 : Cond.methodLink "VectorSolver$Text" 31 Y_String_length.1 ∈ lw_gd := (lw_i1 (List.mem_of_getElem? (i := 43) rfl))
def w_Text_init_37 (Q : xO → xS → Prop) : Nat → Int32 → Int32 → xS → Prop
  | 0 => fun _ _ _ => False
  | n + 1 => fun a1 a2 σ =>
    wp_String_length_900 (xqi (fun r2 u1 => ((r2 ≤ a2 → Q (.inl none) u1) ∧ (¬ r2 ≤ a2 → ((47 ≤ a1 → Q (.inl none) u1) ∧ (¬ 47 ≤ a1 → wp_String_charAt_900 (xqi (fun r4 u3 => ((¬ r4 = 32 → (∀ x5 : Int32, x5 = a2 + 1 → w_Text_init_37 Q n a1 x5 u3)) ∧ (r4 = 32 → (∀ x6 : Int32, x6 = a1 + 1 → (vp_in x6 48 ∧ (∀ s7 : xS, s7 = xpi u3 3 x6.toNatClampNeg (a2 + 1) → (∀ x8 : Int32, x8 = a2 + 1 → w_Text_init_37 Q n x6 x8 s7))))))) (fun n u => Q (.inr n) u)) u1 a2))))) (fun n u => Q (.inr n) u)) σ 
def wp_Text_init (Q : xO → xS → Prop) (σ : xS) : Prop :=
  ∃ m, w_Text_init_37 Q m 0 0 σ
set_option maxRecDepth 20000 in
theorem sw_Text_init_37 {γ : xG1} {d b0 : Nat} {Q : xO → xS → Prop} : ∀ (n : Nat) (a1 : Int32) (a2 : Int32) (σ : xS), w_Text_init_37 Q n a1 a2 σ → xJ (SH2, γ) Y_Text_init (d + 4) b0 37 [(0, .ref 0), (1, .int a1), (2, .int a2)] [] σ Q := by
  intro n
  induction n with
  | zero => intro a1 a2 σ h; exact h.elim
  | succ n ih =>
    intro a1 a2 σ h
    refine xJ.iload_n (o_Text_init 21 rfl) rfl ?_
    refine xJ.ldcS (i := 0) (o_Text_init 22 rfl) t_Text_29 ?_
    refine xJ.callX (Y' := Y_String_length) (o_Text_init 23 rfl) m_Text_31 y_String_length im_String_length se_String_length rfl ⟨by decide, by decide⟩ (s_String_length_900 h) rfl rfl (Nat.le_of_ble_eq_true rfl) (fun _ hx => by cases hx) (fun v u q => ?_) (fun n u q => q)
    obtain ⟨r, rfl, h⟩ := xqi_get q
    refine xJ.icmp_ge (tgt := 81) (o_Text_init 24 rfl) (by decide) (fun z => ?_) (fun z => ?_)
    · replace h := h.1 z
      exact xJ.return_ (o_Text_init 43 rfl) rfl h
    · replace h := h.2 z
      refine xJ.iload_n (o_Text_init 25 rfl) rfl ?_
      refine xJ.bipush (v := 47) (o_Text_init 26 rfl) (by decide) ?_
      refine xJ.icmp_ge (tgt := 81) (o_Text_init 27 rfl) (by decide) (fun z => ?_) (fun z => ?_)
      · replace h := h.1 z
        exact xJ.return_ (o_Text_init 43 rfl) rfl h
      · replace h := h.2 z
        refine xJ.ldcS (i := 0) (o_Text_init 28 rfl) t_Text_29 ?_
        refine xJ.iload_n (o_Text_init 29 rfl) rfl ?_
        refine xJ.callX (Y' := Y_String_charAt) (o_Text_init 30 rfl) m_Text_37 y_String_charAt im_String_charAt se_String_charAt rfl ⟨by decide, by decide⟩ (s_String_charAt_900 h) rfl rfl (Nat.le_of_ble_eq_true rfl) (fun _ hx => by cases hx) (fun v u q => ?_) (fun n u q => q)
        obtain ⟨r, rfl, h⟩ := xqi_get q
        refine xJ.bipush (v := 32) (o_Text_init 31 rfl) (by decide) ?_
        refine xJ.icmp_ne (tgt := 75) (o_Text_init 32 rfl) (by decide) (fun z => ?_) (fun z => ?_)
        · replace h := h.1 z
          refine xJ.iincC (w := 1) (o_Text_init 41 rfl) rfl (by decide) (by decide) ?_
          replace h := h _ rfl
          refine xJ.goto (tgt := 37) (o_Text_init 42 rfl) (by decide) ?_
          exact xJ.lvs (by exact ⟨rfl, rfl, rfl, trivial⟩) (ih _ _ _ h)
        · replace h := h.2 z
          refine xJ.iincC (w := 1) (o_Text_init 33 rfl) rfl (by decide) (by decide) ?_
          replace h := h _ rfl
          refine xJ.aload_n (o_Text_init 34 rfl) rfl ?_
          refine xJ.getfield (o_Text_init 35 rfl) f_Text_25 rfl rfl ?_
          refine xJ.iload_n (o_Text_init 36 rfl) rfl ?_
          refine xJ.iload_n (o_Text_init 37 rfl) rfl ?_
          refine xJ.iconst (v := 1) (o_Text_init 38 rfl) (by decide) ?_
          refine xJ.iadd (o_Text_init 39 rfl) ?_
          refine xJ.iastore (o_Text_init 40 rfl) rfl h.1 ?_
          replace h := h.2
          replace h := h _ rfl
          refine xJ.iincC (w := 1) (o_Text_init 41 rfl) rfl (by decide) (by decide) ?_
          replace h := h _ rfl
          refine xJ.goto (tgt := 37) (o_Text_init 42 rfl) (by decide) ?_
          exact xJ.lvs (by exact ⟨rfl, rfl, rfl, trivial⟩) (ih _ _ _ h)
set_option maxRecDepth 20000 in
theorem s_Text_init {γ : xG1} {d b0 : Nat} {Q : xO → xS → Prop} {σ : xS} (h : wp_Text_init Q σ) : xJ (SH2, γ) Y_Text_init (d + 4) b0 33 [(0, .ref 0)] [] σ Q := by
  refine xJ.iconst (v := 0) (o_Text_init 17 rfl) (by decide) ?_
  refine xJ.istore_n (o_Text_init 18 rfl) (by decide) ?_
  refine xJ.iconst (v := 0) (o_Text_init 19 rfl) (by decide) ?_
  refine xJ.istore_n (o_Text_init 20 rfl) (by decide) ?_
  obtain ⟨m, h⟩ := h
  exact xJ.lvs (by exact ⟨rfl, rfl, rfl, trivial⟩) (sw_Text_init_37 m _ _ _ h)
theorem rws_nb : ∀ n, n < 47 → ∀ i, i < (rws n).length → chc 0 (rf n + i) ≠ 32 := by decide +kernel
theorem chc_lt : ∀ k, k < 295 → chc 0 k < 128 := by decide +kernel
theorem rf_47 : rf 47 = 295 := by decide +kernel
theorem p_length0 {Q : xO → xS → Prop} {σ : xS} (q : Q (.inl (some (.int (nI 295)))) σ) : wp_String_length_900 Q σ := by
  unfold wp_String_length_900
  unfold wp_String_coder_900
  refine ⟨fun z => absurd z (by decide), fun _ => ⟨by decide, ?_⟩⟩
  rw [xqi_i, show jishr (Int32.ofNat 295) 0 = nI 295 from by decide]
  exact q
theorem p_w37 {Q : xO → xS → Prop} (hQ : ∀ g : Nat → Int32, (∀ n, n ≤ 47 → g n = nI (rf n)) → Q (.inl none) (st2 g)) : ∀ (m k n : Nat) (g : Nat → Int32), 295 - k < m → k ≤ 295 → n ≤ 47 → (n < 47 → rf n ≤ k ∧ k ≤ rf n + (rws n).length) → (∀ j, j ≤ n → g j = nI (rf j)) → w_Text_init_37 Q m (nI n) (nI k) (st2 g) := by
  intro m
  induction m with
  | zero => intro k n g h; omega
  | succ m ih =>
    intro k n g hm hk hn hp hg
    unfold w_Text_init_37
    refine p_length0 ?_
    rw [xqi_i]
    have h295 : n = 47 ∨ k < 295 := by
      by_cases e : n = 47
      · exact Or.inl e
      · have h1 := hp (by omega)
        have h2 := (rws_f n (by omega)).1
        right; omega
    have hend : n = 47 → Q (.inl none) (st2 g) := fun e => hQ g (fun j hj => hg j (by omega))
    refine ⟨fun z => hend ?_, fun z => ⟨fun y => hend ?_, fun y => ?_⟩⟩
    · rcases h295 with e | e
      · exact e
      · exfalso
        rw [nI_leI (by decide) (by omega)] at z
        omega
    · rw [show (47 : Int32) = nI 47 from rfl, nI_leI (by decide) (by omega)] at y
      omega
    have hn' : n < 47 := by
      rw [show (47 : Int32) = nI 47 from rfl, nI_leI (by decide) (by omega)] at y
      omega
    obtain ⟨h1, h2⟩ := hp hn'
    have hf := rws_f n hn'
    have hk' : k < 295 := by omega
    refine p_charAt0 hk' ?_
    rw [xqi_i]
    have hc := chc_lt k hk'
    have e1 : nI k + 1 = nI (k + 1) := by rw [show (1 : Int32) = nI 1 from rfl, nI_add]
    refine ⟨fun z x5 e5 => ?_, fun z x6 e6 => ?_⟩
    · subst e5
      rw [e1]
      have hne : k ≠ rf n + (rws n).length := by
        intro e
        apply z
        rw [e, hf.2.2.2.1]
        rfl
      exact ih (k + 1) n g (by omega) (by omega) hn (fun _ => ⟨by omega, by omega⟩) hg
    · have e2 : nI n + 1 = nI (n + 1) := by rw [show (1 : Int32) = nI 1 from rfl, nI_add]
      rw [e2] at e6
      subst e6
      refine ⟨vp_in_nI (by omega) (by decide), fun s7 e7 x8 e8 => ?_⟩
      subst e8
      rw [e1] at e7 ⊢
      rw [nI_clamp (by omega), st2_pi] at e7
      subst e7
      have heq : k = rf n + (rws n).length := by
        rcases Nat.lt_or_ge k (rf n + (rws n).length) with e | e
        · exfalso
          have h3 := rws_nb n hn' (k - rf n) (by omega)
          rw [show rf n + (k - rf n) = k by omega] at h3
          rw [show (32 : Int32) = nI 32 from rfl] at z
          exact h3 ((nI_eq (by omega) (by decide)).mp z)
        · omega
      have hrf : rf (n + 1) = k + 1 := by
        show rf n + (rws n).length + 1 = k + 1
        omega
      refine ih (k + 1) (n + 1) _ (by omega) (by omega) (by omega) (fun _ => ⟨by omega, by omega⟩) (fun j hj => ?_)
      by_cases e : j = n + 1
      · rw [if_pos e, e, hrf]
      · rw [if_neg e]
        exact hg j (by omega)
theorem p_Text_init {Q : xO → xS → Prop} (hQ : ∀ g : Nat → Int32, (∀ n, n ≤ 47 → g n = nI (rf n)) → Q (.inl none) (st2 g)) : wp_Text_init Q (st2 fun _ => 0) :=
  ⟨296, p_w37 hQ 296 0 0 (fun _ => 0) (by omega) (by omega) (by omega) (fun _ => ⟨Nat.le_refl 0, Nat.zero_le _⟩) (fun j hj => by
    have hj0 : j = 0 := Nat.le_zero.mp hj
    subst hj0
    rfl)⟩
theorem tx_end {γ : xG1} {b q0 q1 q2 : Nat} {k0 k1 k2 : ClassId} {p : Program} {e : Env} {s : State} {m : MethodId} {args : Array Value} {below : List Frame} {meth : Method} {c : Code} {A : Nat → Prop} {Z : State → Prop} {ws : va_W} {tys : List (ClassId × FieldType)} {cells slots : Nat} (hA : A = va_A [(b, .inr (1, dfl 1))] s.heap.size) (E : cEnt γ A Y_Text_init p s m args meth c) (hZ : ∀ t, MQ below (cQ γ [(b, .inr (1, dfl 1))] s.heap.size (po_Text b)) args s 21854 131124 A t → Z t)
    (hw : (ws, tys, cells, slots) = ([(b, .inr (1, [.ref q0, .int 0, .int 0, .int (-1), .ref q1, .int 0, .int 0, .int 0, .ref q2, .int 0, .int 0, .int 0, .int 0])), (q0, .inl (k0, 65536, .inl fun _ => 0)), (q1, .inl (k1, 65537, .inr (.inl fun _ => 0))), (q2, .inl (k2, 48, .inl fun _ => 0))], [(k0, .byte), (k1, .long), (k2, .int)], 3, 131121)) : cJ p e rm_Text s m args below meth c γ A Y_Text_init Z 33 [(0, .ref b)] [] ws tys cells slots := by
  cases hw
  intro H locs ls hP hK hD hS hl
  obtain ⟨γl, γD, γa, γc, γb, γs, γL, γx⟩ := γ
  have hbd := E.2.2.2.2.2.2.2.2.2
  let g2 : xG1 := (γl, γD, adW [b, q0, q1, q2] γa, fun k => [k0, k0, k1, k2].getD k k0, γb, γs, γL, γx)
  have hWd : ([(b, .inr (1, [.ref q0, .int 0, .int 0, .int (-1), .ref q1, .int 0, .int 0, .int 0, .ref q2, .int 0, .int 0, .int 0, .int 0])), (q0, .inl (k0, 65536, .inl fun _ => 0)), (q1, .inl (k1, 65537, .inr (.inl fun _ => 0))), (q2, .inl (k2, 48, .inl fun _ => 0))] : va_W) = xWd (SH2, g2) (st2 fun _ => 0) := rfl
  rw [hWd] at hP hD
  have hxA : ∀ q, xA (SH2, g2) q → A q := xA_in hD
  have had : ∀ k, 900 ≤ k → adW [b, q0, q1, q2] γa k = γa k := fun k hk => adW_hi (by show 4 ≤ k; omega)
  have hAd : xAd (SH2, g2) := xAd_of hD hbd.2.1 hbd.2.2.2.2.2.1 ((had 920 (by omega)).trans hbd.2.2.2.2.2.2.1) hbd.2.2.2.2.1
  have hxK : ∀ t : State, s.vm.Alike t.vm → va_K γD xcl [(k0, .byte), (k1, .long), (k2, .int)] t := fun t ht => va_K.moved ht hK
  have hBody : xBody (SH2, g2) s := by
    refine ⟨⟨hK.1, fun k ty n hk => ?_⟩, hAd, hbd.2.1 _ (hbd.1 _ (Nat.le_refl _)), (hbd.2.2.1.narrow (fun q hq => hbd.2.1 q (hxA q hq))).adr had, hbd.2.2.2.1⟩
    match k, hk with
    | 0, hk => cases hk
    | 1, hk => cases hk; exact hK.2 0 (k0, .byte) rfl
    | 2, hk => cases hk; exact hK.2 1 (k1, .long) rfl
    | 3, hk => cases hk; exact hK.2 2 (k2, .int) rfl
    | n + 4, hk => cases hk
  have hE : xEnt (SH2, g2) Y_Text_init (xR 4 21854) p e s m args meth c := ⟨E.1, E.2.1, E.2.2.2.2.2.2.1, E.2.2.1, E.2.2.2.1, E.2.2.2.2.1, E.2.2.2.2.2.2.2.1, E.2.2.2.2.2.2.2.2.1, hBody⟩
  have hin : ∀ q, q < s.heap.size → A q → xA (SH2, g2) q := by
    intro q hq ha
    rw [hA] at ha
    rcases ha with ⟨k, e, hk⟩ | ha
    · match k, hk with
      | 0, hk => cases hk; exact ⟨0, (show 0 < 4 by decide), rfl⟩
      | n + 1, hk => cases hk
    · omega
  have K := s_Text_init (γ := g2) (d := 0) (b0 := 21854) (Q := fun o u => o = .inl none ∧ ∃ g : Nat → Int32, (∀ n, n ≤ 47 → g n = nI (rf n)) ∧ u = st2 g) (p_Text_init (fun g hg => ⟨rfl, g, hg, rfl⟩))
  refine W.low (locs' := locs.filter fun y => decide (y.base < s.heap.size)) (fun y hy hlt => List.mem_filter.mpr ⟨hy, decide_eq_true hlt⟩) ?_
  refine W.widen (k := 21854) (n := 131124) (by decide) (by decide) ?_
  refine W.room (R' := xR 4 21854) (by decide) (by decide) (by decide) (by decide) ?_
  have K2 := K p e s m args below meth c hE H (locs.filter fun y => decide (y.base < s.heap.size)) ls hP ⟨hS.1, fun q h1 h2 => hS.2.1 q h1 (fun z => h2 (hin q h1 z)), fun y hy => by
    obtain ⟨y1, y2⟩ := List.mem_filter.mp hy
    exact hin _ (of_decide_eq_true y2) (hS.2.2 y y1)⟩ hl (by decide)
  intro T hT X
  obtain ⟨t, a1, o, hrun, hend, out, σ', ho, ⟨hq1, g, hg, hq2⟩, hP', hF, hb', hW', L, hsame, hL⟩ := K2 T hT X
  subst hq1; subst hq2
  have hz : xb (st2 g) = 0 := rfl
  rw [hz] at hsame
  have hsame : s.sameButNew ({ t with vm := s.vm } : State) L 21854 131124 := hsame
  have ho' : o = .returned none := ho
  subst ho'
  refine ⟨t, a1, hZ t ⟨_, hrun, hend, ⟨⟨(xWd (SH2, g2) (st2 g), [(k0, .byte), (k1, .long), (k2, .int)]), rfl, ⟨fun i => [q0, q1, q2].getD i 0, fun i => [k0, k1, k2].getD i k0, g, hg, rfl, rfl⟩, hP', hxK t hW'.alike, ?_⟩, ⟨hF.1, fun q h1 h2 => hF.2 q h1 (fun z => h2 (by rw [← hA]; exact hxA q z))⟩⟩, L, ⟨⟨_, rfl⟩, hW', hsame⟩, fun q hq => hxA _ (hL q hq)⟩⟩
  rw [← hA]
  exact (hAd.D (st2 g)).weaken (fun k q hk _ => by obtain ⟨a, b⟩ := xWd_lt hk; rw [b]; exact hxA _ ⟨k, a, rfl⟩)
set_option maxRecDepth 20000 in
theorem cm_Text (γ : xG1) (b : Nat) : cM γ Y_Text_init rm_Text (.ref b :: []) [(b, .inr (1, dfl 1))] (po_Text b) := by
  refine cM.of rfl rfl rfl (Nat.le_of_ble_eq_true rfl) (fun p e s m args below meth c A Z hA E hZ hret => ?_)
  show cJ _ _ _ _ _ _ _ _ _ _ _ _ _ 0 [(0, .ref b)] [] _ _ _ _
  refine cJ.aload E (o_Text_init 0 rfl) 0 rfl ?_
  refine cJ.objInit E (o_Text_init 1 rfl) (lw_i1 (List.mem_of_getElem? (i := 39) rfl)) (lw_i1 (List.mem_of_getElem? (i := 32) rfl)) (lw_i1 (List.mem_of_getElem? (i := 33) rfl)) (by decide) (by decide) ?_
  refine cJ.aload E (o_Text_init 2 rfl) 0 rfl ?_
  refine cJ.ldc (v := 65536) E (o_Text_init 3 rfl) (lw_i1 (List.mem_of_getElem? (i := 40) rfl)) ?_
  refine cJ.arr (a0 := (65536, .inl fun _ => 0)) (N := 65536) (ty := .byte) E (o_Text_init 4 rfl) rfl (lw_i1 (List.mem_of_getElem? (i := 142) rfl)) (fun _ => rfl) (by decide) (by decide) (by decide) (by decide) (by decide) (o_Text_init 5 rfl) cf_Text_10 rfl rfl rfl rfl (by simp only [List.length_set, len_dfl]; decide) (fun q0 k0 => ?_)
  refine cJ.aload E (o_Text_init 6 rfl) 0 rfl ?_
  refine cJ.iconst (v := (-1)) E (o_Text_init 7 rfl) (by decide) ?_
  refine cJ.putI E (o_Text_init 8 rfl) cf_Text_16 rfl rfl rfl (by simp only [List.length_set, len_dfl]; decide) ?_
  refine cJ.aload E (o_Text_init 9 rfl) 0 rfl ?_
  refine cJ.ldc (v := 65537) E (o_Text_init 10 rfl) (lw_i1 (List.mem_of_getElem? (i := 41) rfl)) ?_
  refine cJ.arr (a0 := (65537, .inr (.inl fun _ => 0))) (N := 65537) (ty := .long) E (o_Text_init 11 rfl) rfl (lw_i1 (List.mem_of_getElem? (i := 143) rfl)) (fun _ => rfl) (by decide) (by decide) (by decide) (by decide) (by decide) (o_Text_init 12 rfl) cf_Text_21 rfl rfl rfl rfl (by simp only [List.length_set, len_dfl]; decide) (fun q1 k1 => ?_)
  refine cJ.aload E (o_Text_init 13 rfl) 0 rfl ?_
  refine cJ.bipush (v := 48) E (o_Text_init 14 rfl) (by decide) ?_
  refine cJ.arr (a0 := (48, .inl fun _ => 0)) (N := 48) (ty := .int) E (o_Text_init 15 rfl) rfl (lw_i1 (List.mem_of_getElem? (i := 144) rfl)) (fun _ => rfl) (by decide) (by decide) (by decide) (by decide) (by decide) (o_Text_init 16 rfl) cf_Text_25 rfl rfl rfl rfl (by simp only [List.length_set, len_dfl]; decide) (fun q2 k2 => ?_)
  exact tx_end hA E hZ rfl
