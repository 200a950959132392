/-! THE LAW FROM ITS ENTRY -/
def xKt (Γ : xG) (k : Nat) : Option (ClassId × FieldType) := match (xSp Γ)[k]? with
  | some (Sum.inr (ty, _)) => some (xcA Γ k, ty)
  | _ => none
theorem xK_of {Γ : xG} {s : State} {tys : List (ClassId × FieldType)} (hK : va_K (xD Γ) xcl tys s) (ht : tys = (List.range (xSp Γ).length).filterMap (fun k => xKt Γ k)) : xK Γ s := by
  refine ⟨hK.1, fun k ty n hk => ?_⟩
  have hl : k < (xSp Γ).length := (List.getElem?_eq_some_iff.mp hk).1
  have hm : (xcA Γ k, ty) ∈ tys := by
    rw [ht]
    exact List.mem_filterMap.mpr ⟨k, List.mem_range.mpr hl, by unfold xKt; rw [hk]⟩
  obtain ⟨i, hi⟩ := List.mem_iff_getElem?.mp hm
  exact hK.2 i _ hi
def R_law : String := "VectorSolverLaw"
def lw_P (b : Addr) (xs : List Int32) (args : Array Value) (s : State) : Prop := args = #[.ref b] ∧ s.IntsAt b xs ∧ xs.length ≤ 3072 ∧ (Jvm.Cond.and given_1 narrow_1).before args s = true
def lw_Q (_ : Array Value) (s : State) (o : Outcome) (t : State) : Prop := o = .returned (some (.int 1)) ∧ Framed s o t [] 601024 7293034
def lw_Z (below : List Frame) (a : Array Value) (s : State) : State → Prop := fun t => ∃ o, t.status = .running ∧ Ended t below o ∧ lw_Q a s o t
/-- the world of the law, made; the law's loop -/
theorem lw_end {γ : xG1} {q1 q2 q3 : Nat} {k3 : ClassId} {w1 w2 : va_W} {ty1 ty2 : List (ClassId × FieldType)} {p : Program} {e : Env} {s : State} {m : MethodId} {args : Array Value} {below : List Frame} {meth : Method} {c : Code} {A : Nat → Prop} {lv : List (Nat × Value)} {ws : va_W} {tys : List (ClassId × FieldType)} {cells slots : Nat} (hL : γ.2.2.2.2.2.2.1 ≤ 3072) (hA : A = fun q => s.heap.size ≤ q) (hbs : γ.2.2.2.2.1 = s.heap.size) (E : cEnt γ A Y_VectorSolverLaw_law p s m args meth c)
    (h1 : po_VectorSolver q1 w1 ty1) (h2 : po_VectorSolverModel γ q2 w2 ty2) (hw : ws = ([] ++ w1 ++ w2) ++ [(q3, .inl (k3, 1, .inr (.inl fun _ => 0)))]) (ht : tys = ([] ++ ty1 ++ ty2) ++ [(k3, .long)]) (hc : cells ≤ 160000) (hsl : slots ≤ 960000) (hlv : lv = [(3, .ref q3), (2, .ref q2), (1, .ref q1), (0, .ref γ.2.2.2.2.2.1)]) : cJ p e room_1 s m args below meth c γ A Y_VectorSolverLaw_law (lw_Z below args s) 20 lv [] ws tys cells slots := by
  obtain ⟨γl, γD, γa, γc, γb, γs, γL, γx⟩ := γ
  obtain ⟨a1, k1, g, hg, rfl, rfl⟩ := h1
  obtain ⟨a2, k2, rfl, rfl⟩ := h2
  subst hw; subst ht; subst hlv
  have hbd := E.2.2.2.2.2.2.2.2.2
  have hbs : γb = s.heap.size := hbs
  let g2 : xG1 := (γl, γD, adW [q1, a1 0, a1 1, a1 2, a1 3, a1 4, a1 5, a1 6, a1 7, a1 8, a1 9, a1 10, a1 11, a1 12, a1 13, a1 14, a1 15, a1 16, a1 17, a1 18, a1 19, a1 20, a1 21, a1 22, a1 23, a1 24, a1 25, a1 26, a1 27, a1 28, a1 29, a1 30, a1 31, a1 32, a1 33, a1 34, a1 35, a1 36, a1 37, a1 38, a1 39, a1 40, a1 41, a1 42, a1 43, a1 44, a1 45, a1 46, a1 47, a1 48, q2, a2 0, a2 1, a2 2, a2 3, a2 4, a2 5, a2 6, a2 7, a2 8, a2 9, a2 10, a2 11, a2 12, a2 13, a2 14, a2 15, a2 16, a2 17, a2 18, a2 19, a2 20, a2 21, a2 22, a2 23, a2 24, a2 25, a2 26, a2 27, a2 28, a2 29, a2 30, a2 31, a2 32, q3] γa, fun k => ([k3, k3, k1 0, k1 1, k1 2, k3, k3, k1 3, k1 4, k1 5, k1 6, k1 7, k1 8, k1 9, k1 10, k1 11, k1 12, k1 13, k1 14, k1 15, k1 16, k1 17, k1 18, k1 19, k3, k1 20, k1 21, k1 22, k1 23, k1 24, k3, k1 25, k1 26, k1 27, k1 28, k1 29, k1 30, k1 31, k1 32, k1 33, k3, k1 34, k3, k1 35, k3, k1 36, k1 37, k1 38, k3, k1 39, k3, k2 0, k2 1, k2 2, k2 3, k2 4, k2 5, k2 6, k2 7, k2 8, k2 9, k2 10, k2 11, k2 12, k2 13, k2 14, k2 15, k2 16, k2 17, k2 18, k2 19, k2 20, k2 21, k2 22, k2 23, k2 24, k2 25, k2 26, k2 27, k2 28, k2 29, k2 30, k2 31, k2 32, k3] : List ClassId).getD k k3, γb, γs, γL, γx)
  refine cJ.perm (ws' := xWd (SHP, g2) (st0 g)) [0, 2, 3, 4, 5, 1, 6, 7, 8, 9, 10, 11, 12, 13, 14, 15, 16, 17, 18, 19, 20, 21, 22, 23, 24, 25, 26, 27, 28, 29, 30, 31, 32, 33, 34, 35, 36, 37, 38, 39, 40, 41, 42, 43, 44, 45, 46, 47, 48, 49, 50, 51, 52, 53, 54, 55, 56, 57, 58, 59, 60, 61, 62, 63, 64, 65, 66, 67, 68, 69, 70, 71, 72, 73, 74, 75, 76, 77, 78, 79, 80, 81, 82, 83, 84] (by decide) (by rfl) ?_
  intro H locs ls hP hK hD hS hl
  have hxA : ∀ q, xA (SHP, g2) q → A q := xA_in hD
  have had : ∀ k, 900 ≤ k → adW [q1, a1 0, a1 1, a1 2, a1 3, a1 4, a1 5, a1 6, a1 7, a1 8, a1 9, a1 10, a1 11, a1 12, a1 13, a1 14, a1 15, a1 16, a1 17, a1 18, a1 19, a1 20, a1 21, a1 22, a1 23, a1 24, a1 25, a1 26, a1 27, a1 28, a1 29, a1 30, a1 31, a1 32, a1 33, a1 34, a1 35, a1 36, a1 37, a1 38, a1 39, a1 40, a1 41, a1 42, a1 43, a1 44, a1 45, a1 46, a1 47, a1 48, q2, a2 0, a2 1, a2 2, a2 3, a2 4, a2 5, a2 6, a2 7, a2 8, a2 9, a2 10, a2 11, a2 12, a2 13, a2 14, a2 15, a2 16, a2 17, a2 18, a2 19, a2 20, a2 21, a2 22, a2 23, a2 24, a2 25, a2 26, a2 27, a2 28, a2 29, a2 30, a2 31, a2 32, q3] γa k = γa k := fun k hk => adW_hi (by show 85 ≤ k; omega)
  have hAd : xAd (SHP, g2) := xAd_of hD hbd.2.1 hbd.2.2.2.2.2.1 ((had 920 (by omega)).trans hbd.2.2.2.2.2.2.1) hbd.2.2.2.2.1
  have hBody : xBody (SHP, g2) s := ⟨xK_of hK (by rfl), hAd, hbd.2.1 _ (hbd.1 _ (Nat.le_refl _)), (hbd.2.2.1.narrow (fun q hq => hbd.2.1 q (hxA q hq))).adr had, hbd.2.2.2.1⟩
  have hE : xEnt (SHP, g2) Y_VectorSolverLaw_law (xR 269 160512) p e s m args meth c := ⟨E.1, E.2.1, E.2.2.2.2.2.2.1, E.2.2.1, E.2.2.2.1, E.2.2.2.2.1, E.2.2.2.2.2.2.2.1, E.2.2.2.2.2.2.2.2.1, hBody⟩
  have K := s_law (γ := g2) (d := 0) (b0 := 160512) (Q := fun o _ => o = .inl (some (.int 1))) (law_ok (fun _ => rfl) hL (inv_0 hg))
  refine W.low (locs' := []) (fun y hy hlt => by
    have := hS.2.2 y hy
    rw [hA] at this
    exact absurd hlt (Nat.not_lt.mpr this)) ?_
  refine W.widen (k := 160000) (n := 960000) hc hsl ?_
  refine W.room (R' := xR 269 160512) (by decide) (by decide) (by decide) (by decide) ?_
  have hl2 : lv_has ls 8 (xLv (SHP, g2) [(0, .ref 920), (1, .ref 0), (2, .ref 50), (3, .ref 84)]) := by
    refine ⟨hl.1, hl.2.1, fun q hq => hl.2.2 q ?_⟩
    have e0 : xad (SHP, g2) 920 = γs := (had 920 (by omega)).trans hbd.2.2.2.2.2.2.1
    have hq : q ∈ [(0, Value.ref (xad (SHP, g2) 920)), (1, .ref q1), (2, .ref q2), (3, .ref q3)] := hq
    rw [e0] at hq
    simp only [List.mem_cons, List.not_mem_nil, or_false] at hq ⊢
    rcases hq with h | h | h | h
    · exact Or.inr (Or.inr (Or.inr h))
    · exact Or.inr (Or.inr (Or.inl h))
    · exact Or.inr (Or.inl h)
    · exact Or.inl h
  have hb0 : (160512 - xb (st0 g)) * xec = 160000 ∧ (160512 - xb (st0 g)) * xes = 960000 := by
    have : xb (st0 g) = 512 := rfl
    rw [this]
    decide
  have K2 := K p e s m args below meth c hE H [] ls hP ⟨hS.1, fun q h1 h2 => hS.2.1 q h1 (fun z => by rw [hA] at z; exact absurd h1 (Nat.not_lt.mpr z)), fun y hy => by cases hy⟩ hl2 (by show 512 ≤ 160512; decide)
  rw [hb0.1, hb0.2] at K2
  intro T hT X
  obtain ⟨t, a1, o, hrun, hend, out, σ', ho, hq1, hP', hF, hb', hW', L, hsame, hL⟩ := K2 T hT X
  have hq1 : out = .inl (some (.int 1)) := hq1
  subst hq1
  have ho' : o = .returned (some (.int 1)) := ho
  subst ho'
  refine ⟨t, a1, _, hrun, hend, rfl, ⟨_, rfl⟩, hW', hsame.weaken (fun y hy hlt => ?_) ?_ ?_⟩
  · have h3 := hxA _ (hL y hy)
    rw [hA] at h3
    exact absurd hlt (Nat.not_lt.mpr h3)
  · show (160512 - xb σ') * 1 ≤ 601024
    omega
  · show (160512 - xb σ') * 6 ≤ 7293034
    omega
def lw_At (p : Program) (s : State) (m : MethodId) (meth : Method) (c : Code) (b L : Nat) (xs : Nat → Int32) : Prop :=
  p.tables.exec = Jvm.exec ∧ c.code = code ∧ meth.sig.returnType = ret ∧ c.maxLocals = 8 ∧ s.vm.findClass R_law = some m.cls ∧ (∀ w ∈ lw_tbl, w.before #[Value.ref b] s = true) ∧ va_X b L xs s s.heap ∧ b < s.heap.size ∧ meth.locks = false ∧ (Jvm.Cond.and given_1 narrow_1).before #[Value.ref b] s = true ∧ c.exceptionTable.toList.map (fun h => (h.startPc, h.endPc, h.handlerPc, h.catchType)) = []
/-- from the entry, for every script of at most 3072 ints, the law comes to its end with true -/
theorem whole_start {p : Program} {e : Env} {s : State} {m : MethodId} {below : List Frame} {meth : Method} {c : Code} (l : Launch) (hfl : l.flags = pinnedFlags ++ [noTraceFlag]) {b L : Nat} {xs : Nat → Int32} (hL : L ≤ 3072) (C0 : lw_At p s m meth c b L xs) : W p l e room_1 s m #[Value.ref b] below meth c s.heap [] 0 0 (lw_Z below #[Value.ref b] s) (entryFrame m ([Value.ref b] : List Value).toArray 8) := by
  obtain ⟨hx, hcode, hret, hml, hown, hts, hX, hbl, hlk, hgv, htb⟩ := C0
  obtain ⟨ad, had, hRo⟩ := ro_0 b hts (flat_of_before _ hgv)
  obtain ⟨D, hK⟩ := kn_0 hts
  let γ : xG1 := (l, D, ad, fun _ => 0, s.heap.size, b, L, xs)
  have E : cEnt γ (fun q => s.heap.size ≤ q) Y_VectorSolverLaw_law p s m #[Value.ref b] meth c := ⟨hx, hcode, hml, hown, fun w h => hts w (List.mem_filter.mp h).1, Or.inr (by decide), hret, hlk, htb, fun q h => h, fun q h => h, hRo, hX, hbl, hfl, had, ns_0 hts⟩
  have hl := lv_entry [Value.ref b] (n := 8) (Nat.le_of_ble_eq_true rfl)
  rw [lg_entry_eq]
  have K : cJ p e room_1 s m #[Value.ref b] below meth c γ (fun q => s.heap.size ≤ q) Y_VectorSolverLaw_law (lw_Z below #[Value.ref b] s) 0 [(0, .ref b)] [] [] [] 0 0 := by
    refine cJ.new (ci := 0) E (o_VectorSolverLaw_law 0 rfl) rfl (lw_i1 (List.mem_of_getElem? (i := 26) rfl)) (lw_i1 (List.mem_of_getElem? (i := 27) rfl)) (lw_i1 (List.mem_of_getElem? (i := 1) rfl)) (by decide) (by decide) (fun q1 => ?_)
    refine cJ.dup E (o_VectorSolverLaw_law 1 rfl) rfl ?_
    refine cJ.callP (wc := [(q1, .inr (0, dfl 0))]) (wr := []) E (cm_VectorSolver γ q1) yc_VectorSolver (o_VectorSolverLaw_law 2 rfl) (.inl (lw_i1 (List.mem_of_getElem? (i := 28) rfl))) rfl ⟨by decide, by decide⟩ (by decide) (by decide) rfl (Nat.le_of_ble_eq_true rfl) (List.Perm.refl _) (fun w1 ty1 h1 => ?_)
    refine cJ.astore E (o_VectorSolverLaw_law 3 rfl) (by decide) ?_
    refine cJ.new (ci := 9) E (o_VectorSolverLaw_law 4 rfl) rfl (lw_i6 (List.mem_of_getElem? (i := 186) rfl)) (lw_i6 (List.mem_of_getElem? (i := 187) rfl)) (lw_i1 (List.mem_of_getElem? (i := 14) rfl)) (by decide) (by decide) (fun q2 => ?_)
    refine cJ.dup E (o_VectorSolverLaw_law 5 rfl) rfl ?_
    refine cJ.callP (wc := [(q2, .inr (9, dfl 9))]) (wr := [] ++ w1) E (cm_VectorSolverModel γ q2) yc_VectorSolverModel (o_VectorSolverLaw_law 6 rfl) (.inl (lw_i6 (List.mem_of_getElem? (i := 188) rfl))) rfl ⟨by decide, by decide⟩ (by decide) (by decide) rfl (Nat.le_of_ble_eq_true rfl) List.perm_append_comm (fun w2 ty2 h2 => ?_)
    refine cJ.astore E (o_VectorSolverLaw_law 7 rfl) (by decide) ?_
    refine cJ.iconst (v := 1) E (o_VectorSolverLaw_law 8 rfl) (by decide) ?_
    refine cJ.newa (a0 := (1, .inr (.inl fun _ => 0))) (N := 1) (ty := .long) E (o_VectorSolverLaw_law 9 rfl) rfl (lw_i1 (List.mem_of_getElem? (i := 143) rfl)) (fun _ => rfl) (by decide) (by decide) (by decide) (by decide) (by decide) (fun q3 k3 => ?_)
    refine cJ.astore E (o_VectorSolverLaw_law 10 rfl) (by decide) ?_
    exact lw_end (γ := γ) hL rfl rfl E h1 h2 rfl rfl (by decide) (by decide) rfl
  exact K s.heap [] _ (fun k q h => by simp at h) hK ⟨fun i j p q h => by simp at h, fun k q h => by simp at h⟩ va_S.rf hl
set_option maxHeartbeats 4000000 in
theorem lw_walk (l : Launch) (hfl : l.flags = pinnedFlags ++ [noTraceFlag]) (b : Addr) (xs : List Int32) : MetFree l x (headSpec (Jvm.Cond.code x code maxLocals ret :: tables_1) room_1) (lw_P b xs) (fun _ _ _ _ _ => True) lw_Q := by
  refine MetFree.of_bodyS (code := code) (maxLocals := maxLocals) (ret := ret) (by decide) ?_ ?_
  · intro args s m h hn
    obtain ⟨meth, c, h1, h2, h3, h4, h5, h6, -, -⟩ := Cond.code_spec hn (atoms_spec (ws := Jvm.Cond.code x code maxLocals ret :: tables_1) h _ List.mem_cons_self)
    exact ⟨meth, c, h1, h2, h3, h4, h5, h6⟩
  · intro p e s m args below meth c s₁ B hml0 hP _
    obtain ⟨rfl, hx, hbd, hgv⟩ := hP
    obtain ⟨scr, harrAt, hlist, hof, hsmall⟩ := hx
    obtain ⟨hcb, hkn, -, -⟩ := State.arrayAt?_spec harrAt
    have hown : s.vm.findClass R_law = some m.cls := findClass_of_methodNamed B.named
    have hts0 : ∀ c ∈ (Jvm.Cond.code x code maxLocals ret :: tables_1), c.before #[Value.ref b] s = true := atoms_spec (ws := Jvm.Cond.code x code maxLocals ret :: tables_1) B.pre
    have hts : ∀ w ∈ lw_tbl, w.before #[Value.ref b] s = true := k2_hts_sels lw_privs (fun w hw => hts0 w (List.mem_cons_of_mem _ hw)) lw_privs_ok
    have hml : c.maxLocals = 8 := B.maxLocals_eq (hts0 _ List.mem_cons_self)
    have X₀ : Stand p l e room_1 s m #[Value.ref b] below meth c s₁ [] 0 0 := Stand.of_body B
    have htb : c.exceptionTable.toList.map (fun h => (h.startPc, h.endPc, h.handlerPc, h.catchType)) = [] := by
      obtain ⟨meth', c', h1, h2, h3, h4, h5, h6, h7, -⟩ := xCw_spec (Y := Y_VectorSolverLaw_law) (hts0 _ List.mem_cons_self) B.named
      cases B.method.symm.trans h1
      cases X₀.code.symm.trans h2
      exact h7
    have hh0 : s₁.heap = s.heap := by rw [B.state]; rfl
    have hsz : scr.slots.size = xs.length := by rw [← Array.length_toList, hlist, List.length_map]
    have hval : ∀ j : Nat, j < xs.length → scr.slots[j]? = some (.int (xs.getD j 0)) := fun j hj => by
      rw [← Array.getElem?_toList, hlist]
      simp [hj]
    have hbl : b < s.heap.size := (Array.getElem?_eq_some_iff.mp hcb).1
    have hX : va_X b xs.length (fun j => xs.getD j 0) s s.heap := ⟨scr, hcb, hof, hkn, hsz, hval⟩
    have K : W p l e room_1 s m #[Value.ref b] below meth c s₁.heap [] 0 0 (lw_Z below #[Value.ref b] s) (entryFrame m ([Value.ref b] : List Value).toArray 8) := by
      rw [hh0]
      exact whole_start l hfl hbd ⟨B.exec, B.bytes, B.returns, hml, hown, hts, hX, hbl, B.notSynchronized, hgv, htb⟩
    obtain ⟨t, a1, o, b1, b2, b3⟩ := K s₁ rfl X₀
    exact ⟨t, o, a1, b1, b2, b3⟩
theorem lw_pre_spec {args : Array Value} {s : State} (h : (Jvm.Cond.and given_1 narrow_1).before args s = true) (hr : rest_1_c.before args s = true) : ∃ (b : Addr) (xs : List Int32), lw_P b xs args s := by
  have hs := flat_of_before _ h
  have hq := flat_of_before _ hr
  have hc : (Cond.count 1).before args s = true := hs _ (by decide +kernel)
  have harr : (Cond.arrayOf (.arg 0) .int).before args s = true := hs _ (by decide +kernel)
  have hle : (Cond.le (.length (.arg 0)) (.int 3072)).before args s = true := hs _ (by decide +kernel)
  have hlen : (Cond.isInt (.length (.arg 0))).before args s = true := hq _ (by decide +kernel)
  have hall : (Cond.all (.arg 0) (.isInt (.elem (.arg 0) (.index 0)))).before args s = true := hq _ (by decide +kernel)
  obtain ⟨b, xs, hb, hx⟩ := State.ints_of_pre rfl harr hlen hall
  have hsm : xs.length < 2 ^ 31 := hx.choose_spec.2.2.2
  have hev : (Term.length (.arg 0)).eval args s none [] s = some (.int xs.length.toInt32) := hx.length_eval hb
  have hv := Cond.le_ints hev (show (Term.int 3072).eval args s none [] s = some (.int 3072) from rfl)
  have hd : xs.length.toInt32 ≤ 3072 := by
    simpa [Cond.before, Cond.holds, hv] using hle
  have hN : xs.length ≤ 3072 := (Int32.ofNat_le_ofNat hsm (by decide)).mp (show Int32.ofNat xs.length ≤ Int32.ofNat 3072 from hd)
  exact ⟨b, xs, Cond.one_arg hc (show args[0]? = some (.ref b) from hb), hx, hN, h⟩
theorem lw_comes (l : Launch) (hfl : l.flags = pinnedFlags ++ [noTraceFlag]) : Comes l x (Jvm.Cond.code x code maxLocals ret :: tables_1) room_1 (fun tb e args s => Calls_1 tb e args s ∧ rest_1 tb e args s ∧ Pre_1 tb e args s)
    (fun _ _ args s o t => lw_Q args s o t) := by
  intro p e ha hc hk s m args below hf hfit hheap happ hpre
  obtain ⟨b, xs, hP⟩ := lw_pre_spec hpre.2.2 hpre.2.1
  obtain ⟨k, o, h1, h2, h3, hQ⟩ := lw_walk l hfl b xs p e ha hc hk s m args below hf ((Spec.applies_iff_loose hf).mp happ).1 hP trivial
  exact ⟨k, o, h1, h2, h3, hQ⟩
theorem lw_frame {s t : State} {o : Outcome} {args : Array Value} (h : Framed s o t [] 601024 7293034) :
    Framed s o t (fieldLocs frame_1_writes args s ++ arrayLocs frame_1_arrays args s ++ staticLocs frame_1_statics s) 601024 7293034 := h
theorem lw_limb (L : Cond) (hL : ∀ (args : Array Value) (s t : State), L.after args s (.returned (some (.int 1))) t = true) :
    ArmFor flags0 classFile x code maxLocals ret World_1 tables_1 room_1 Calls_1 rest_1 Pre_1
      (fun tb e a s o t => postC L tb e a s o t ∧ Framed s o t (fieldLocs frame_1_writes a s ++ arrayLocs frame_1_arrays a s ++ staticLocs frame_1_statics s) 601024 7293034) := by
  intro l hfl _ _ p e ha hc hk s m args below hf hfit hheap happ hpre
  obtain ⟨k, o, h1, h2, h3, rfl, hF⟩ := lw_comes l hfl p e ha hc hk s m args below hf hfit hheap happ hpre
  exact ⟨k, _, h1, h2, h3, hL args s _, lw_frame hF⟩
theorem i_vc : Claimed_1_1 ∧ Claimed_1_2 := ⟨lw_limb limb_1_1 (fun args s t => by simp [limb_1_1, Cond.after, Cond.holds, Cond.value]), lw_limb limb_1_2 (fun args s t => Cond.after_iff.mpr (by
  first | (rw [show limb_1_2 = Cond.eq .result (.int 1) from rfl, Cond.eq_ints (x := 1) (y := 1) rfl rfl]; simp; done) | (simp [limb_1_2, Cond.value, Term.eval]; done)))⟩
