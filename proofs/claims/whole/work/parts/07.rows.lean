/-! texts, throws -/
/-! a walk, begun anew at the state where it stands -/
theorem xrebase {p : Program} {l : Launch} {e : Env} {R : Room} {s : State} {m : MethodId} {args : Array Value} {below : List Frame} {meth : Method} {c : Code} {T : State} {locs : List Loc} {cells slots : Nat}
    (X : Stand p l e R s m args below meth c T locs cells slots) (R' : Room) (h1 : R'.frames ≤ R.frames) (h2 : R'.locals ≤ R.locals) (h3 : cells + R'.cells ≤ R.cells) (h4 : slots + R'.slots ≤ R.slots) :
    Stand p l e R' (T.setFrames (.invoking m args :: below)) m args below meth c T [] 0 0 := by
  obtain ⟨g₀, hfr⟩ := X.frames_eq
  have hcur : T.cur < T.threads.size := State.cur_lt_of_frames hfr
  have hf' : (T.setFrames (.invoking m args :: below)).frames = .invoking m args :: below := State.frames_setFrames _ hcur
  have hm' : (T.setFrames (.invoking m args :: below)).vm.method? m = some meth := X.method'
  have hroom := X.room
  have hl0 := State.localsInUse_invoking X.frames X.method X.code
  have hl1 := State.localsInUse_invoking hf' hm' X.code
  have hbook := X.book
  have hheap := X.heapSize
  have hused := X.used
  refine ⟨X.admits, X.cas, X.clock, hf', ?_, ?_, hm', X.code, X.here, X.tail, State.WarmedH.refl (T.setFrames (.invoking m args :: below)), (State.stackLimits_setFrames ..).symm, (State.stackBytes_setFrames ..).symm, ?_⟩
  · simp only [State.hasRoom, Bool.and_eq_true, decide_eq_true_eq] at hroom ⊢
    rw [hl1]
    rw [hl0] at hroom
    rw [hf', State.stackLimits_setFrames, State.stackBytes_setFrames, X.limits, X.bytes]
    rw [X.frames] at hroom
    refine ⟨⟨⟨⟨?_, ?_⟩, ?_⟩, ?_⟩, hbook⟩
    · omega
    · refine ⟨?_, ?_, ?_, ?_, hroom.1.1.1.2.2.2.2.2⟩ <;> omega
    · show T.heap.size + R'.cells ≤ _; omega
    · show T.slotsUsed + R'.slots ≤ _; omega
  · have hh := X.hears
    unfold State.hears at hh ⊢
    cases below with
    | nil =>
      simp only at hh ⊢
      rw [hm']
      rw [X.method] at hh
      exact hh
    | cons f r =>
      cases f <;> simp only at hh ⊢
      all_goals first
        | rfl
        | (rw [hm']; rw [X.method] at hh; exact hh)
        | (rw [State.code?_eq] at hh ⊢
           rw [← X.warmed.alike.method?] at hh
           exact hh)
  · obtain ⟨t, ht, -⟩ := State.frames_cons hf'
    have h := (State.sameButNew.refl (T.setFrames (.invoking m args :: below)) ht).setFrames T.frames (by simpa [State.setFrames] using hcur)
    rw [State.setFrames_setFrames] at h
    obtain ⟨t0, ht0, -⟩ := State.frames_cons hfr
    rw [State.setFrames_self ht0] at h
    exact h
section R7
variable {Γ : xG} {Y Y' : xMth} {d b0 pc : Nat} {lv : List (Nat × Value)} {st : List Value} {σ : xS} {Q Q' : xO → xS → Prop}
theorem xJ.ldcS {i idx : Nat} (hd : decode Y.2.1 pc = .ok (.ldc idx, 2)) (hm : (Y.1.cls, idx, i) ∈ xsl) (k : xJ Γ Y d b0 (pc + 2) lv (.ref (900 + i) :: st) σ Q) : xJ Γ Y d b0 pc lv st σ Q :=
  fun p e s m args below meth c E H locs ls hP hS hl hb => va_ldcS E.x E.b E.own (E.bd.2.2.2.1.2.2.2.1 _ hm) hd (k p e s m args below meth c E H locs ls hP hS hl hb)
/-- the classes between an exception of ours and Throwable -/
def xnm : List String := ["java/lang/RuntimeException", "java/lang/Exception"]
/-- the words of a throw that don't hang on the place -/
def xThW (X : String) : List Cond := Bundle.throwableAtoms ++ Bundle.throwableSAtoms ++ Bundle.chainSAtoms X xnm ++
  [.instantiable X 6, .castable X X, .selects X Bundle.tFill0 Bundle.tFill0, .selects X Bundle.tFill Bundle.tFill,
   .lays X Bundle.tN "cause" "Ljava/lang/Throwable;", .lays X Bundle.tN "stackTrace" Bundle.steD, .lays X Bundle.tN "suppressedExceptions" Bundle.listD, .lays X Bundle.tN "detailMessage" "Ljava/lang/String;",
   .fieldLink Bundle.tN 198 Bundle.tN "backtrace" "Ljava/lang/Object;", .lays Bundle.tN Bundle.tN "backtrace" "Ljava/lang/Object;", .lays X Bundle.tN "backtrace" "Ljava/lang/Object;"]
/-- those that have laws of their own -/
def xsoft (X : String) : List Cond := [.castable X X, .laysStatic Bundle.tN "UNASSIGNED_STACK" Bundle.steD, .laysStatic Bundle.tN "SUPPRESSED_SENTINEL" Bundle.listD, .declares ⟨"java/lang/RuntimeException", "<init>", "(Ljava/lang/String;)V"⟩, .declares ⟨"java/lang/Exception", "<init>", "(Ljava/lang/String;)V"⟩, .declares ⟨"java/lang/Throwable", "<init>", "(Ljava/lang/String;)V"⟩]
/-- what the tables say of a place where the exception of number n is made and thrown -/
def xTh (own : String) (idx sidx ic n : Nat) : Prop := (∃ tx, (own, sidx, tx) ∈ xml) ∧ Cond.classLink own idx (xexc.getD n "") ∈ lw_gd ∧ Cond.initialized (xexc.getD n "") ∈ lw_gd ∧ Cond.methodLink own ic (Bundle.initS (xexc.getD n "")) ∈ lw_gd ∧ ((∀ w ∈ (xThW (xexc.getD n "")).filter goodWord, w ∈ lw_gd) ∧ (xThW (xexc.getD n "")).all (fun w => goodWord w || decide (w ∈ xsoft (xexc.getD n ""))) = true ∧ (xexc.getD n "", xexc.getD n "") ∈ xcw) ∧ Bundle.fit (xexc.getD n "") = true
/-- every word of a throw, at a state where ours stand -/
theorem xThW_at {Γ : xG} {U : State} {args : Array Value} {X : String} (ts : ∀ w ∈ lw_gd, w.before args U = true) (bd : xBody Γ U) (h5 : (∀ w ∈ (xThW X).filter goodWord, w ∈ lw_gd) ∧ (xThW X).all (fun w => goodWord w || decide (w ∈ xsoft X)) = true ∧ (X, X) ∈ xcw) : ∀ w ∈ xThW X, w.before args U = true := by
  intro w hw
  by_cases hg : goodWord w = true
  · exact ts _ (h5.1 _ (List.mem_filter.mpr ⟨hw, hg⟩))
  · have h6 := List.all_eq_true.mp h5.2.1 w hw
    rw [Bool.or_eq_true] at h6
    have h7 : w ∈ xsoft X := of_decide_eq_true (h6.resolve_left hg)
    have hN : ∀ {v : Cond}, va_Nw v U → v.onTables = true → v.before args U = true := fun {v} h1 h2 => by
      have h8 := Cond.onTables_vm (A := #[]) (A' := args) (U := U) (U' := U) U.vm v h2
      rw [State.setVm_self] at h8
      rw [← h8]; exact h1
    have hR := bd.2.2.2.1.2.2.2.2.2.2.2
    simp only [xsoft, List.mem_cons, List.not_mem_nil, or_false] at h7
    rcases h7 with rfl | rfl | rfl | rfl | rfl | rfl
    · exact hN (hR.2.1 _ h5.2.2) rfl
    · exact hR.1.1.word
    · exact hR.1.2.word
    · exact hN (hR.2.2 _ (by decide)) rfl
    · exact hN (hR.2.2 _ (by decide)) rfl
    · exact hN (hR.2.2 _ (by decide)) rfl
theorem xisRef {C n d : String} {A : Nat → Prop} {U : State} {args : Array Value} (h : va_Zq C n d A U U.heap) : (Cond.isRef (.static C n d)).before args U = true := by
  have key : ∀ v : Value, va_Z C n d v A U U.heap → (Term.static C n d).eval args U none [] U = some v := by
    intro v hz
    obtain ⟨cf, kf, fi, f, a, cell, h1, h2, h3, h4, h5, h6, h7, h8⟩ := hz
    simp [Term.eval, State.fieldNamed?, h1, h2, h4, h5, h6, h7]
  rcases h with h | ⟨t, h⟩
  · simp [Cond.before, Cond.holds, Cond.value, key _ h]
  · simp [Cond.before, Cond.holds, Cond.value, key _ h]
theorem xkeep_of {s' U : State} {k n : Nat} (h : s'.sameButNew ({ U with vm := s'.vm } : State) [] k n) : ∀ q : Nat, q < s'.heap.size → U.heap[q]? = s'.heap[q]? := by
  intro q hq
  obtain ⟨c', h1, h2, h3, h4⟩ := h.2.2.2.2.2 q (s'.heap[q]) (Array.getElem?_eq_getElem hq)
  have h1' : U.heap[q]? = some c' := h1
  rw [h1', Array.getElem?_eq_getElem hq]
  congr 1
  rw [h2]
  have : c'.slots = (s'.heap[q]).slots := by
    apply Array.ext_getElem?
    intro i
    exact h4 i (by simp)
  rw [this]
theorem xJ.throwNew {idx sidx ic n : Nat} (h0 : decode Y.2.1 pc = .ok (.new idx, 3)) (h1 : decode Y.2.1 (pc + 3) = .ok (.dup, 1)) (h2 : decode Y.2.1 (pc + 3 + 1) = .ok (.ldc sidx, 2)) (h3 : decode Y.2.1 (pc + 3 + 1 + 2) = .ok (.invokespecial ic, 3)) (h4 : decode Y.2.1 (pc + 3 + 1 + 2 + 3) = .ok (.athrow, 1))
    (hw : xTh Y.1.cls idx sidx ic n) (hb1 : 1 ≤ xb σ) (hd : 9 ≤ d) (hW : (st.map fun v => v.category).sum ≤ 8) (hh : ∀ h ∈ Y.2.2.2.2, ¬ (h.1 ≤ pc + 3 + 1 + 2 + 3 ∧ pc + 3 + 1 + 2 + 3 < h.2.1)) (hq : Q (.inr n) (xpb σ (xb σ - 1))) : xJ Γ Y d b0 pc lv st σ Q := by
  intro p e s m args below meth c E H locs ls hP hS hl hb T0 hT0 X0
  obtain ⟨⟨tx, hx1⟩, hx2, hx3, hx4, hx5, hx6⟩ := hw
  generalize hX : xexc.getD n "" = X at hx2 hx3 hx4 hx5 hx6
  have Y0 := xrebase X0 { frames := d, cells := 1, slots := 6, locals := 64 * d } (Nat.le_refl _) (Nat.le_refl _) (by show (b0 - xb σ) * 1 + 1 ≤ b0 * 1; omega) (by show (b0 - xb σ) * 6 + 6 ≤ b0 * 6; omega)
  generalize hs' : T0.setFrames (.invoking m args :: below) = s' at Y0
  have hvm : s'.vm = T0.vm := by rw [← hs']; rfl
  have hhp : s'.heap = H := by rw [← hs', ← hT0]; rfl
  have hWs : s.WarmedH s'.vm := by rw [hvm]; exact X0.warmed
  have ts : ∀ w ∈ lw_gd, w.before args s' = true := fun w hw => word_at hWs (xGood w hw) (E.ts w hw)
  have bd : xBody Γ s' := E.bd.moved hWs hS hhp
  have own : s'.vm.findClass Y.1.cls = some m.cls := by rw [hWs.alike.findClass]; exact E.own
  have hall := xThW_at (args := args) ts bd hx5
  have hins : (Cond.instantiable X 6).before args s' = true := hall _ (by simp [xThW])
  obtain ⟨a0, hR⟩ := bd.2.2.2.1.2.2.2.2.1 _ hx1
  have hatoms : ∀ w ∈ Bundle.ownAtoms Y.1.cls ic X xnm, w.before args s' = true := by
    intro w hw
    unfold Bundle.ownAtoms at hw
    rcases List.mem_append.mp hw with hw | hw
    · exact hall _ (List.mem_append_left _ hw)
    · simp only [List.mem_cons, List.not_mem_nil, or_false] at hw
      rcases hw with rfl | rfl | rfl | rfl | rfl | rfl | rfl | rfl | rfl | rfl | rfl | rfl | rfl | rfl
      · exact ts _ hx4
      · exact hins
      · exact hall _ (by simp [xThW])
      · exact hall _ (by simp [xThW])
      · exact hall _ (by simp [xThW])
      · exact hall _ (by simp [xThW])
      · exact hall _ (by simp [xThW])
      · exact hall _ (by simp [xThW])
      · exact hall _ (by simp [xThW])
      · exact xisRef bd.2.2.2.1.1.1
      · exact xisRef bd.2.2.2.1.1.2
      · exact hall _ (by simp [xThW])
      · exact hall _ (by simp [xThW])
      · exact hall _ (by simp [xThW])
  have hout : ∀ y ∈ c.exceptionTable.toList, covers y (pc + 3 + 1 + 2 + 3) = false := by
    intro y hy
    have hm : (y.startPc, y.endPc, y.handlerPc, y.catchType) ∈ Y.2.2.2.2 := by rw [← E.tb]; exact List.mem_map.mpr ⟨y, hy, rfl⟩
    have := hh _ hm
    simpa [covers] using this
  have h8 : ((st.map (xV Γ)).map fun v => v.category).sum ≤ 8 := by simpa [List.map_map, Function.comp_def, xV_cat] using hW
  have K : W p (xLa Γ) e { frames := d, cells := 1, slots := 6, locals := 64 * d } s' m args below meth c H [] 0 0 (fun U => ∃ (a : Addr) (ce : Cell) (cC : ClassId) (kC : Class), U.status = .running ∧ Ended U below (.threw a) ∧ s'.WarmedH U.vm ∧ s'.sameButNew ({ U with vm := s'.vm } : State) [] 1 6 ∧ U.heap[a]? = some ce ∧ ce.vm = .none ∧ s'.vm.findClass X = some ce.cls ∧ s'.vm.classes[ce.cls]? = some kC) (F0 m pc ls (st.map (xV Γ))) := by
    refine W.newc (g := F0 m pc ls (st.map (xV Γ))) E.x E.b own (ts _ hx2) hins (ts _ hx3) rfl h0 (Nat.le_refl _) (Nat.le_refl _) fun cC kC hf1 hf2 hf3 hf4 => ?_
    refine W.eq (g2 := F0 m (pc + 3) ls (.ref H.size :: st.map (xV Γ))) rfl ?_
    refine lv_dup E.x E.b h1 rfl ?_
    refine va_ldcS E.x E.b own hR h2 ?_
    intro T hT X1
    obtain ⟨U, w1, w2, w3, w4, w5, ce, w6, w7⟩ := X1.ctorThrowS E.x (Launch.traces_off bd.2.1.2.1 X1.admits) (own := Y.1.cls) (cls := X) (names := xnm) (ic := ic) own hx6 (by decide) hatoms (fun x hx => by cases hx) (a := H.size) (cX := cC) (kX := kC) hf1 hf2 (by rw [hT]; simp [freshCell]) (by rw [hhp]; exact Nat.le_refl _) (msg := .ref a0) rfl
      (g := F0 m (pc + 3 + 1 + 2) ls (.ref a0 :: .ref H.size :: .ref H.size :: st.map (xV Γ))) rfl (by rw [E.n]; exact hl.1) rfl rfl (rest := st.map (xV Γ)) rfl (by rw [E.b]; exact h3) (by rw [E.b]; exact h4) hout (by show 2 + 3 < d; omega)
      (by
        have := lv_room (m := m) (pc := pc) (ls := ls) (rest := st.map (xV Γ)) h8
        show 2 * (F0 m pc ls (st.map (xV Γ))).monitorRoom + (1 + ((st.map (xV Γ)).map fun v => v.category).sum) + (13 * (2 + 1) + 42) ≤ 64 * d
        omega) E.lk
    refine ⟨U, w1, H.size, ce, cC, kC, w2, w3, w4, w5, w6, w7.vm, w7.cls, ?_⟩
    have : ce.cls = cC := Option.some.inj (w7.cls.symm.trans hf1)
    rw [this]; exact hf2
  obtain ⟨U, w1, a, ce, cC, kC, w2, w3, w4, w5, w6, w7, w8, w9⟩ := K T0 hT0 Y0
  have hk : ∀ q : Nat, q < H.size → U.heap[q]? = H[q]? := by
    intro q hq
    have := xkeep_of w5 q (by rw [hhp]; exact hq)
    rw [hhp] at this
    exact this
  have hsz : H.size ≤ U.heap.size := by rw [← hhp]; exact w5.2.1
  have hWU : s.WarmedH U.vm := by
    have h5 : T0.WarmedH U.vm := by rw [← hs'] at w4; exact w4
    exact State.WarmedH.trans X0.warmed h5
  refine ⟨U, w1, .threw a, w2, w3, .inr n, xpb σ (xb σ - 1), ⟨a, ce, rfl, w6, w7, ?_, ?_⟩, hq, ?_, ?_, ?_, hWU, locs, ?_, hS.2.2⟩
  · rw [hX, w4.alike.findClass]; exact w8
  · obtain ⟨k', hk', -⟩ := w4.alike.2.2 _ _ w9
    exact ⟨k', hk'⟩
  · rw [xWd_pb]
    exact hP.kept fun k q hkq => hk _ (hP k q hkq).lt
  · exact ⟨Nat.le_trans hS.1 hsz, fun q h5 h6 => (hk q (Nat.lt_of_lt_of_le h5 hS.1)).trans (hS.2.1 q h5 h6)⟩
  · show xb σ - 1 ≤ b0; omega
  · have h6 : (T0.setVm s.vm).sameButNew ({ U with vm := s.vm } : State) [] 1 6 := by
      obtain ⟨e2, q2, q3, q4, q5, q6⟩ := w5
      subst hs'
      refine ⟨?_, q2, q3, q4, q5, q6⟩
      have e3 := congrArg (fun z : State => z.setVm s.vm) e2
      rw [State.setFrames_setFrames] at e3
      exact e3
    have h7 := X0.same.trans h6
    rw [List.append_nil] at h7
    have e1 : (b0 - xb (xpb σ (xb σ - 1))) * xec = (b0 - xb σ) * xec + 1 := by show (b0 - (xb σ - 1)) * 1 = (b0 - xb σ) * 1 + 1; omega
    have e2 : (b0 - xb (xpb σ (xb σ - 1))) * xes = (b0 - xb σ) * xes + 6 := by show (b0 - (xb σ - 1)) * 6 = (b0 - xb σ) * 6 + 6; omega
    rw [e1, e2]
    exact h7
/-- a call on a text -/
theorem xJ.callX {idx n k : Nat} {as stk : List Value} (hd : decode Y.2.1 pc = .ok (.invokevirtual idx, 3)) (hl1 : Cond.methodLink Y.1.cls idx Y'.1 ∈ lw_gd) (hy : xYc Y' n) (hin : Cond.instanceMethod Y'.1 ∈ lw_gd) (hse : Cond.selects Y'.1.cls Y'.1 Y'.1 ∈ lw_gd)
    (hC : Y'.1.cls = "java/lang/String") (hk : 900 ≤ k ∧ k < 903) (hM : xM Γ Y' d (.ref k :: as) σ Q') (hn : as.length = n) (hs : stk = as.reverse ++ .ref k :: st)
    (hW : (st.map fun v => v.category).sum ≤ 8) (hh : ∀ h ∈ Y.2.2.2.2, ¬ (h.1 ≤ pc ∧ pc < h.2.1))
    (kr : ∀ (v : Option Value) (σ' : xS), Q' (.inl v) σ' → xJ Γ Y (d + 1) b0 (pc + 3) lv (v.toList ++ st) σ' Q) (kt : ∀ (n : Nat) (σ' : xS), Q' (.inr n) σ' → Q (.inr n) σ') :
    xJ Γ Y (d + 1) b0 pc lv stk σ Q := by
  subst hs
  intro p e s m args below meth c E H locs ls hP hS hlv hb T hT X
  subst hT
  obtain ⟨hl2, hl3, hl4, hnp, hL⟩ := hy
  obtain ⟨mk, methM, hnamed, hmethM, hstM, habM⟩ := Cond.instanceMethod_spec (E.ts _ hin)
  obtain ⟨methM', cM, hmethM', -, -, -, -, -, -, hsigM⟩ := xCw_spec (E.ts _ hl2) hnamed
  cases hmethM.symm.trans hmethM'
  obtain ⟨c2, r2, m2, q1, q2, q3, q4, kP, hkP, hkPi⟩ := Cond.selects_spec (E.ts _ hse)
  obtain ⟨i, rfl⟩ : ∃ i, k = 900 + i := ⟨k - 900, by omega⟩
  obtain ⟨cellB, hcB, hoB, hclB⟩ := vk_recv (i := i) E.bd.2.2.2.1.2.2.1 (by omega) hS
  rw [hC] at q1
  cases hclB.symm.trans q1
  cases (State.methodFound?_of_named hnamed hl4).symm.trans q2
  cases hnamed.symm.trans q3
  have hselP : selectMethod e.platform s.vm cellB.cls mk = .method mk := by rw [Launch.admits_selectMethod X.admits]; exact q4
  have hlen : (as.map (xV Γ)).length = methM.sig.parameters.length := by
    unfold xnp at hnp
    rw [hsigM] at hnp
    rw [List.length_map, hn]
    exact (Option.some.inj hnp).symm
  obtain ⟨vm₁, X₁, hstep₁⟩ := X.invokevirtual E.x E.own (E.ts _ hl1) hnamed hmethM hstM hkP hkPi hl4 (a := xad Γ (900 + i)) (cell := cellB) hcB (fun z h => by rw [h] at hoB; cases hoB) hselP hmethM habM hkP hkPi
    (g := F0 m pc ls ((as.reverse ++ .ref (900 + i) :: st).map (xV Γ))) rfl (argsL := as.map (xV Γ)) (rest := st.map (xV Γ)) hlen (by simp [List.map_reverse, xV]) (by rw [E.b]; exact hd)
  have hcat : 2 * (F0 m pc ls (st.map (xV Γ))).monitorRoom + ((st.map (xV Γ)).map fun v => v.category).sum ≤ 8 := lv_room (by simpa [List.map_map, Function.comp_def, xV_cat] using hW)
  have B := xcall (g := F0 m pc ls (st.map (xV Γ))) X₁ hM E.bd E.ts hP hS rfl (by rw [E.n]; exact hlv.1) (ig := .invokevirtual idx) (len := 3) (by rw [E.b]; exact hd) hcat (X₁.named hnamed) hl2 hl3 (Nat.le_refl _) (by show _ ≤ 64 * (d + 1); omega)
    (by show (b0 - xb σ) * xec + xb σ * xec ≤ b0 * xec; rw [← Nat.add_mul]; exact Nat.mul_le_mul_right _ (by omega)) (by show (b0 - xb σ) * xes + xb σ * xes ≤ b0 * xes; rw [← Nat.add_mul]; exact Nat.mul_le_mul_right _ (by omega))
  obtain ⟨t, a, b⟩ := xcont E hlv hb B kr kt hh
  exact ⟨t, hstep₁ _ fun acts => by rw [doInvoke_state]; exact a, b⟩
end R7
