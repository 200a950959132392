/-! THE BEGINNING: objects are made. Worlds are lists here, and they grow. -/
theorem good_gd : ∀ w ∈ lw_gd, (w.onTables && w.keeps) = true ∨ ∃ ty, w = Cond.arrayClass ty := fun w h => good_of_word (List.mem_filter.mp h).2
theorem good_in {Y : xMth} {Ts : List Cond} (hT : ∀ w ∈ lw_gd, w ∈ Ts) (hY : xCw Y ∈ lw_gd) : GoodIn Ts (xCw Y :: lw_gd) := fun w h => by
  rcases List.mem_cons.mp h with q | q
  · rw [q]; exact ⟨hT _ hY, good_gd _ hY⟩
  · exact ⟨hT _ q, good_gd _ q⟩
theorem hasRoom_le {s : State} {pl : Platform} {R R' : Room} (h : s.hasRoom pl R = true) (h1 : R'.frames ≤ R.frames) (h2 : R'.cells ≤ R.cells) (h3 : R'.slots ≤ R.slots) (h4 : R'.locals ≤ R.locals) : s.hasRoom pl R' = true := by
  simp only [State.hasRoom, Bool.and_eq_true, decide_eq_true_eq] at h ⊢
  obtain ⟨⟨⟨⟨a, b1, b2, b3, b4, b5⟩, c⟩, d⟩, e⟩ := h
  exact ⟨⟨⟨⟨by omega, by omega, by omega, by omega, by omega, b5⟩, by omega⟩, by omega⟩, e⟩
theorem xF_of {ci : Nat} {C : String} {T : u_T} {N : Nat} (h : xcl[ci]? = some (C, T, N)) : T = xF ci := by
  match ci, h with
  | 0, h => cases h; rfl
  | 1, h => cases h; rfl
  | 2, h => cases h; rfl
  | 3, h => cases h; rfl
  | 4, h => cases h; rfl
  | 5, h => cases h; rfl
  | 6, h => cases h; rfl
  | 7, h => cases h; rfl
  | 8, h => cases h; rfl
  | 9, h => cases h; rfl
  | ci + 10, h => exact absurd h (by simp [xcl])
theorem xN_of {ci : Nat} {C : String} {T : u_T} {N : Nat} (h : xcl[ci]? = some (C, T, N)) : N = xN ci := by
  match ci, h with
  | 0, h => cases h; rfl
  | 1, h => cases h; rfl
  | 2, h => cases h; rfl
  | 3, h => cases h; rfl
  | 4, h => cases h; rfl
  | 5, h => cases h; rfl
  | 6, h => cases h; rfl
  | 7, h => cases h; rfl
  | 8, h => cases h; rfl
  | 9, h => cases h; rfl
  | ci + 10, h => exact absurd h (by simp [xcl])
/-- the fields of a new object -/
def dfl (ci : Nat) : List Value := (List.range (xN ci)).map (fun j => defaultValue (xty ci j))
theorem len_dfl (ci : Nat) : (dfl ci).length = xN ci := by simp [dfl]
theorem vp_dfl {ci j : Nat} (h : j < xN ci) : defaultValue (xty ci j) = vp_V (dfl ci) j := by
  simp [vp_V, dfl, List.getD, h]
/-- constructors that are linked through the nest -/
def xnl : List (String × Nat × MethodName × String) := [("VectorSolver", 18, ⟨"VectorSolver$Book", "<init>", "()V"⟩, "VectorSolver"), ("VectorSolver$Book", 11, ⟨"VectorSolver$Terms", "<init>", "()V"⟩, "VectorSolver")]
def cNs (s : State) : Prop := ∀ q ∈ xnl, va_Nw (.methodLinkNest q.1 q.2.1 q.2.2.1 q.2.2.2) s
theorem cNs.moved {s U : State} (h : cNs s) (hW : s.WarmedH U.vm) : cNs U := fun q hq => va_Nw.warmM hW (h q hq)
/-- what holds at the entry and lies outside: the texts, the script -/
def cBd (γ : xG1) (A : Nat → Prop) (s : State) : Prop :=
  (∀ q, s.heap.size ≤ q → A q) ∧ (∀ q, A q → γ.2.2.2.2.1 ≤ q) ∧ xRo γ.2.2.1 (fun q => γ.2.2.2.2.1 ≤ q) s s.heap ∧ va_X γ.2.2.2.2.2.1 γ.2.2.2.2.2.2.1 γ.2.2.2.2.2.2.2 s s.heap ∧ γ.2.2.2.2.2.1 < γ.2.2.2.2.1 ∧ γ.1.flags = pinnedFlags ++ [noTraceFlag] ∧ γ.2.2.1 920 = γ.2.2.2.2.2.1 ∧ cNs s
def cPre (γ : xG1) (wc : va_W) (U : State) : Prop :=
  (∀ (k : Nat) (q : Nat × va_E), wc[k]? = some q → γ.2.2.2.2.1 ≤ q.1) ∧ γ.2.2.2.2.1 ≤ U.heap.size ∧ xRo γ.2.2.1 (fun q => γ.2.2.2.2.1 ≤ q) U U.heap ∧ va_X γ.2.2.2.2.2.1 γ.2.2.2.2.2.2.1 γ.2.2.2.2.2.2.2 U U.heap ∧ γ.2.2.2.2.2.1 < γ.2.2.2.2.1 ∧ γ.1.flags = pinnedFlags ++ [noTraceFlag] ∧ γ.2.2.1 920 = γ.2.2.2.2.2.1 ∧ cNs U
theorem cPre.bd {γ : xG1} {wc : va_W} {U : State} (h : cPre γ wc U) : cBd γ (va_A wc U.heap.size) U :=
  ⟨fun q hq => Or.inr hq, fun q hq => by
    rcases hq with ⟨k, e, hk⟩ | hq
    · exact h.1 k _ hk
    · exact Nat.le_trans h.2.1 hq, h.2.2.1, h.2.2.2.1, h.2.2.2.2⟩
theorem cBd.pre {γ : xG1} {A : Nat → Prop} {s U : State} {wc : va_W} {H : Heap} {locs : List Loc} (h : cBd γ A s) (hW : s.WarmedH U.vm) (hS : va_S A s.heap H locs) (hU : U.heap = H) (hD : va_D A wc) : cPre γ wc U := by
  have hb : γ.2.2.2.2.1 ≤ s.heap.size := h.2.1 _ (h.1 _ (Nat.le_refl _))
  have hkeep : ∀ a : Nat, a < s.heap.size → ¬ γ.2.2.2.2.1 ≤ a → H[a]? = s.heap[a]? := fun a h1 h2 => hS.2.1 a h1 (fun z => h2 (h.2.1 a z))
  refine ⟨fun k q hk => h.2.1 _ (hD.2 k q hk), by rw [hU]; exact Nat.le_trans hb hS.1, by rw [hU]; exact (h.2.2.1.moved hW).kept hkeep, ?_, h.2.2.2.2.1, h.2.2.2.2.2.1, h.2.2.2.2.2.2.1, h.2.2.2.2.2.2.2.moved hW⟩
  rw [hU]
  exact va_X.mv hW.alike h.2.2.2.1 (hkeep _ (Nat.lt_of_lt_of_le h.2.2.2.2.1 hb) (Nat.not_le.mpr h.2.2.2.2.1))
theorem cPre.frm {γ : xG1} {wc : va_W} {U : State} (g : JFrame) (mk : MethodId) (a : Array Value) (h : cPre γ wc U) : cPre γ wc (U.calling g mk a) := ⟨h.1, h.2.1, h.2.2.1.moved (U := U.calling g mk a) (State.WarmedH.refl U), va_X.mv (u := U) (U := U.calling g mk a) (Vm.Alike.refl U.vm) h.2.2.2.1 rfl, h.2.2.2.2.1, h.2.2.2.2.2.1, h.2.2.2.2.2.2.1, h.2.2.2.2.2.2.2.moved (U := U.calling g mk a) (State.WarmedH.refl U)⟩
section CONS
variable {p : Program} {l : Launch} {e : Env} {R : Room} {s : State} {m : MethodId} {args : Array Value} {below : List Frame} {meth : Method} {c : Code}
theorem W.room {H : Heap} {locs : List Loc} {cells slots : Nat} {Q : State → Prop} {g : JFrame} {R' : Room} (h1 : R'.frames ≤ R.frames) (h2 : R'.cells ≤ R.cells) (h3 : R'.slots ≤ R.slots) (h4 : R'.locals ≤ R.locals) (k : W p l e R' s m args below meth c H locs cells slots Q g) : W p l e R s m args below meth c H locs cells slots Q g := fun T hT X =>
  k T hT ⟨X.admits, X.cas, X.clock, X.frames, hasRoom_le X.room h1 h2 h3 h4, X.hears, X.method, X.code, X.here, X.tail, X.warmed, X.limits, X.bytes, X.same⟩
def cEnt (γ : xG1) (A : Nat → Prop) (Y : xMth) (p : Program) (s : State) (m : MethodId) (args : Array Value) (meth : Method) (c : Code) : Prop :=
  p.tables.exec = Jvm.exec ∧ c.code = Y.2.1 ∧ c.maxLocals = Y.2.2.1 ∧ s.vm.findClass Y.1.cls = some m.cls ∧ (∀ w ∈ lw_gd, w.before args s = true) ∧ (meth.name = "<init>" ∨ Y.1.name ≠ "<init>") ∧
  meth.sig.returnType = Y.2.2.2.1 ∧ meth.locks = false ∧ c.exceptionTable.toList.map (fun h => (h.startPc, h.endPc, h.handlerPc, h.catchType)) = Y.2.2.2.2 ∧ cBd γ A s
/-- the machine stands with this world and comes to Z -/
def cJ (p : Program) (e : Env) (R : Room) (s : State) (m : MethodId) (args : Array Value) (below : List Frame) (meth : Method) (c : Code) (γ : xG1) (A : Nat → Prop) (Y : xMth) (Z : State → Prop) (pc : Nat) (lv : List (Nat × Value)) (st : List Value) (ws : va_W) (tys : List (ClassId × FieldType)) (cells slots : Nat) : Prop :=
  ∀ (H : Heap) (locs : List Loc) (ls : Array Slot), va_P γ.2.1 xcl ws H → va_K γ.2.1 xcl tys s → va_D A ws → va_S A s.heap H locs → lv_has ls Y.2.2.1 lv → W p γ.1 e R s m args below meth c H locs cells slots Z (F0 m pc ls st)
variable {γ : xG1} {A : Nat → Prop} {Y : xMth} {Z : State → Prop} {pc : Nat} {lv : List (Nat × Value)} {st : List Value} {ws : va_W} {tys : List (ClassId × FieldType)} {cells slots : Nat}
theorem cJ.aload {n : Fin 4} {x : Nat} (E : cEnt γ A Y p s m args meth c) (hd : decode Y.2.1 pc = .ok (.aload_n n, 1)) (k0 : Nat) (hl0 : lv[k0]? = some ((n : Nat), .ref x)) (k : cJ p e R s m args below meth c γ A Y Z (pc + 1) lv (.ref x :: st) ws tys cells slots) : cJ p e R s m args below meth c γ A Y Z pc lv st ws tys cells slots :=
  fun H locs ls hP hK hD hS hl => lv_aload_n E.1 E.2.1 hd rfl (lv_at hl k0 hl0) (k H locs ls hP hK hD hS hl)
theorem cJ.dup {v : Value} (E : cEnt γ A Y p s m args meth c) (hd : decode Y.2.1 pc = .ok (.dup, 1)) (hv : v.category = 1) (k : cJ p e R s m args below meth c γ A Y Z (pc + 1) lv (v :: v :: st) ws tys cells slots) : cJ p e R s m args below meth c γ A Y Z pc lv (v :: st) ws tys cells slots :=
  fun H locs ls hP hK hD hS hl => lv_dup E.1 E.2.1 hd hv (k H locs ls hP hK hD hS hl)
theorem cJ.sipush {n : Int} {v : Int32} (E : cEnt γ A Y p s m args meth c) (hd : decode Y.2.1 pc = .ok (.sipush n, 3)) (hv : (Int16.ofInt n).toInt32 = v) (k : cJ p e R s m args below meth c γ A Y Z (pc + 3) lv (.int v :: st) ws tys cells slots) : cJ p e R s m args below meth c γ A Y Z pc lv st ws tys cells slots :=
  fun H locs ls hP hK hD hS hl => lv_sipush E.1 E.2.1 hd hv (k H locs ls hP hK hD hS hl)
theorem cJ.bipush {n : Int} {v : Int32} (E : cEnt γ A Y p s m args meth c) (hd : decode Y.2.1 pc = .ok (.bipush n, 2)) (hv : (Int8.ofInt n).toInt32 = v) (k : cJ p e R s m args below meth c γ A Y Z (pc + 2) lv (.int v :: st) ws tys cells slots) : cJ p e R s m args below meth c γ A Y Z pc lv st ws tys cells slots :=
  fun H locs ls hP hK hD hS hl => lv_bipush E.1 E.2.1 hd hv (k H locs ls hP hK hD hS hl)
theorem cJ.iconst {n : Int} {v : Int32} (E : cEnt γ A Y p s m args meth c) (hd : decode Y.2.1 pc = .ok (.iconst n, 1)) (hv : Int32.ofInt n = v) (k : cJ p e R s m args below meth c γ A Y Z (pc + 1) lv (.int v :: st) ws tys cells slots) : cJ p e R s m args below meth c γ A Y Z pc lv st ws tys cells slots :=
  fun H locs ls hP hK hD hS hl => lv_iconst E.1 E.2.1 hd hv (k H locs ls hP hK hD hS hl)
theorem cJ.ldc {idx : Nat} {v : Int32} (E : cEnt γ A Y p s m args meth c) (hd : decode Y.2.1 pc = .ok (.ldc idx, 2)) (hw : Cond.constant Y.1.cls idx v ∈ lw_gd) (k : cJ p e R s m args below meth c γ A Y Z (pc + 2) lv (.int v :: st) ws tys cells slots) : cJ p e R s m args below meth c γ A Y Z pc lv st ws tys cells slots :=
  fun H locs ls hP hK hD hS hl => lv_ldc E.1 E.2.1 E.2.2.2.1 (E.2.2.2.2.1 _ hw) hd (k H locs ls hP hK hD hS hl)
theorem cJ.objInit {idx a : Nat} (E : cEnt γ A Y p s m args meth c) (hd : decode Y.2.1 pc = .ok (.invokespecial idx, 3)) (h1 : Cond.methodLink Y.1.cls idx Lib.objectInit ∈ lw_gd) (h2 : Cond.instanceMethod Lib.objectInit ∈ lw_gd) (h3 : Cond.code Lib.objectInit ⟨#[0xb1]⟩ 1 none ∈ lw_gd) (hf : 1 ≤ R.frames) (hl0 : 12 ≤ R.locals) (k : cJ p e R s m args below meth c γ A Y Z (pc + 3) lv [] ws tys cells slots) : cJ p e R s m args below meth c γ A Y Z pc lv [.ref a] ws tys cells slots :=
  fun H locs ls hP hK hD hS hl => W.objInit (g := F0 m pc ls [.ref a]) (rest := []) E.1 E.2.1 E.2.2.2.1 (E.2.2.2.2.1 _ h1) (E.2.2.2.2.1 _ h2) (E.2.2.2.2.1 _ h3) rfl (by rw [E.2.2.1]; exact hl.1) rfl hd hf (by show 2 * 0 + 0 + 12 ≤ _; omega) (k H locs ls hP hK hD hS hl)
theorem cJ.new {idx ci : Nat} {C : String} {T : u_T} {N : Nat} (E : cEnt γ A Y p s m args meth c) (hd : decode Y.2.1 pc = .ok (.new idx, 3)) (hc : xcl[ci]? = some (C, T, N)) (h1 : Cond.classLink Y.1.cls idx C ∈ lw_gd) (h2 : Cond.instantiable C N ∈ lw_gd) (h3 : Cond.initialized C ∈ lw_gd) (hcl : cells + 1 ≤ R.cells) (hsl : slots + N ≤ R.slots)
    (k : ∀ q, cJ p e R s m args below meth c γ A Y Z (pc + 3) lv (.ref q :: st) (ws ++ [(q, .inr (ci, dfl ci))]) tys (cells + 1) (slots + N)) : cJ p e R s m args below meth c γ A Y Z pc lv st ws tys cells slots :=
  fun H locs ls hP hK hD hS hl => va_new (ci := ci) (fs := dfl ci) (C := C) (T := T) (N := N) E.1 E.2.1 E.2.2.2.2.1 (xcl_in hc) (xty ci) (xcl_ty hc) E.2.2.2.1 (E.2.2.2.2.1 _ h1) (E.2.2.2.2.1 _ h2) (E.2.2.2.2.1 _ h3) hK hP hD hS E.2.2.2.2.2.2.2.2.2.1 hc (fun j hj => vp_dfl (by rw [← xN_of hc]; exact hj)) hcl hsl hd (fun q H1 hP1 hD1 hS1 => k q H1 locs ls hP1 hK hD1 hS1 hl)
theorem cJ.newa {atype : ArrayType} {ty : FieldType} {n : Int32} {N : Nat} {a0 : vp_A} (E : cEnt γ A Y p s m args meth c) (hd : decode Y.2.1 pc = .ok (.newarray atype, 2)) (hty : newarray.typeOf atype = ty) (harr : Cond.arrayClass ty ∈ lw_gd) (ha : ∀ cA : ClassId, vp_cell cA a0 = arrV cA N (fun _ => defaultValue ty)) (hn : ¬ n < 0) (hN : n.toNatClampNeg = N) (hby : N * componentBytes ty ≤ 536870912) (hcl : cells + 1 ≤ R.cells) (hsl : slots + N ≤ R.slots)
    (k : ∀ q cA, cJ p e R s m args below meth c γ A Y Z (pc + 2) lv (.ref q :: st) (ws ++ [(q, .inl (cA, a0))]) (tys ++ [(cA, ty)]) (cells + 1) (slots + N)) : cJ p e R s m args below meth c γ A Y Z pc lv (.int n :: st) ws tys cells slots :=
  fun H locs ls hP hK hD hS hl => va_newa E.1 E.2.1 (by rw [hty]; exact E.2.2.2.2.1 _ harr) hty hK hP hD hS E.2.2.2.2.2.2.2.2.2.1 ha hn hN hby hcl hsl hd (fun q cA H1 hK1 hP1 hD1 hS1 => k q cA H1 locs ls hP1 hK1 hD1 hS1 hl)
theorem cJ.putF {idx ci j a : Nat} {v : Value} {fs : List Value} (E : cEnt γ A Y p s m args meth c) (hd : decode Y.2.1 pc = .ok (.putfield idx, 3)) (hf : xFl Y.1.cls idx ci j) (hfin : xfin ci j = true) (hY : Y.1.name = "<init>") (hdc : (xF ci j).1 = Y.1.cls) (q0 : Nat) (he : ws[q0]? = some (a, .inr (ci, fs))) (hn : narrow (xty ci j) v = v) (hfit : fits (xty ci j) v = true) (hl0 : j < fs.length)
    (k : cJ p e R s m args below meth c γ A Y Z (pc + 3) lv st (ws.set q0 (a, .inr (ci, fs.set j v))) tys cells slots) : cJ p e R s m args below meth c γ A Y Z pc lv (v :: .ref a :: st) ws tys cells slots := by
  intro H locs ls hP hK hD hS hl
  obtain ⟨C, T, N, hc, hj, hN, hw⟩ := hf
  have hT : (T j).1 = Y.1.cls := by rw [← hdc, xF_of hc]
  exact va_putF (D := γ.2.1) (ci := ci) (v := v) (ty := xty ci j) (C := C) (T := T) (N := N) E.1 E.2.1 E.2.2.2.2.1 (xcl_in hc) (xty ci) (xcl_ty hc) (xcl_nm hc) E.2.2.2.1 hK hP hD hS q0 he hc j hj (E.2.2.2.2.1 _ hw) (fun _ z => z) (by rw [← xfin_of hc hj]; exact hfin) (E.2.2.2.2.2.1.resolve_right (fun z => z hY)) hT (xcl_ty hc j hj) hn hfit hl0 hd (fun H1 locs1 hP1 hD1 hS1 => k H1 locs1 ls hP1 hK hD1 hS1 hl)
theorem cJ.put {idx ci j a : Nat} {v : Value} {fs : List Value} (E : cEnt γ A Y p s m args meth c) (hd : decode Y.2.1 pc = .ok (.putfield idx, 3)) (hf : xFl Y.1.cls idx ci j) (hfin : xfin ci j = false) (q0 : Nat) (he : ws[q0]? = some (a, .inr (ci, fs))) (hn : narrow (xty ci j) v = v) (hfit : fits (xty ci j) v = true) (hl0 : j < fs.length)
    (k : cJ p e R s m args below meth c γ A Y Z (pc + 3) lv st (ws.set q0 (a, .inr (ci, fs.set j v))) tys cells slots) : cJ p e R s m args below meth c γ A Y Z pc lv (v :: .ref a :: st) ws tys cells slots := by
  intro H locs ls hP hK hD hS hl
  obtain ⟨C, T, N, hc, hj, hN, hw⟩ := hf
  exact va_put (D := γ.2.1) (ci := ci) (v := v) (ty := xty ci j) (C := C) (T := T) (N := N) E.1 E.2.1 E.2.2.2.2.1 (xcl_in hc) (xty ci) (xcl_ty hc) (xcl_nm hc) E.2.2.2.1 hK hP hD hS q0 he hc j hj (E.2.2.2.2.1 _ hw) (fun _ z => z) (by rw [← xfin_of hc hj]; exact hfin) (xcl_ty hc j hj) hn hfit hl0 hd (fun H1 locs1 hP1 hD1 hS1 => k H1 locs1 ls hP1 hK hD1 hS1 hl)
theorem cJ.get {idx ci j a : Nat} {v : Value} {fs : List Value} (E : cEnt γ A Y p s m args meth c) (hd : decode Y.2.1 pc = .ok (.getfield idx, 3)) (hf : xFl Y.1.cls idx ci j) (q0 : Nat) (he : ws[q0]? = some (a, .inr (ci, fs))) (hv : fs[j]? = some v)
    (k : cJ p e R s m args below meth c γ A Y Z (pc + 3) lv (v :: st) ws tys cells slots) : cJ p e R s m args below meth c γ A Y Z pc lv (.ref a :: st) ws tys cells slots := by
  intro H locs ls hP hK hD hS hl
  obtain ⟨C, T, N, hc, hj, hN, hw⟩ := hf
  exact va_get (D := γ.2.1) (ci := ci) (v := v) (C := C) (T := T) (N := N) E.1 E.2.1 E.2.2.2.2.1 (xcl_in hc) E.2.2.2.1 hK hP q0 he hc j hj (E.2.2.2.2.1 _ hw) (fun _ z => z) hv hd (k H locs ls hP hK hD hS hl)
/-- an array is made and laid into a final field of this -/
theorem cJ.arr {idx ci j a : Nat} {fs : List Value} {rest : va_W} {atype : ArrayType} {ty : FieldType} {n : Int32} {N : Nat} {a0 : vp_A} (E : cEnt γ A Y p s m args meth c) (hd : decode Y.2.1 pc = .ok (.newarray atype, 2)) (hty : newarray.typeOf atype = ty) (harr : Cond.arrayClass ty ∈ lw_gd) (ha : ∀ cA : ClassId, vp_cell cA a0 = arrV cA N (fun _ => defaultValue ty)) (hn : ¬ n < 0) (hN : n.toNatClampNeg = N) (hby : N * componentBytes ty ≤ 536870912) (hcl : cells + 1 ≤ R.cells) (hsl : slots + N ≤ R.slots)
    (hd2 : decode Y.2.1 (pc + 2) = .ok (.putfield idx, 3)) (hf : xFl Y.1.cls idx ci j) (hfin : xfin ci j = true) (hY : Y.1.name = "<init>") (hdc : (xF ci j).1 = Y.1.cls) (hty2 : xty ci j = .array ty) (hl0 : j < fs.length)
    (k : ∀ q cA, cJ p e R s m args below meth c γ A Y Z (pc + 5) lv st ((a, .inr (ci, fs.set j (.ref q))) :: (rest ++ [(q, .inl (cA, a0))])) (tys ++ [(cA, ty)]) (cells + 1) (slots + N)) : cJ p e R s m args below meth c γ A Y Z pc lv (.int n :: .ref a :: st) ((a, .inr (ci, fs)) :: rest) tys cells slots := by
  refine cJ.newa E hd hty harr ha hn hN hby hcl hsl (fun q cA => ?_)
  refine cJ.putF E hd2 hf hfin hY hdc 0 (a := a) (fs := fs) rfl (by rw [hty2]; rfl) (by rw [hty2]; rfl) hl0 ?_
  exact k q cA
theorem cJ.perm {ws' : va_W} (is : List Nat) (hn : va_nd is = true) (hs : is.map (fun i => ws[i]?) = ws'.map some) (k : cJ p e R s m args below meth c γ A Y Z pc lv st ws' tys cells slots) : cJ p e R s m args below meth c γ A Y Z pc lv st ws tys cells slots :=
  fun H locs ls hP hK hD hS hl => k H locs ls (hP.sub is (by
    have : is.filterMap (fun i => ws[i]?) = (is.map (fun i => ws[i]?)).filterMap id := by rw [List.filterMap_map]; rfl
    rw [this, hs, List.filterMap_map]
    exact List.filterMap_some)) hK (hD.sub is hn hs) hS hl
theorem cJ.ldcS {idx i : Nat} (E : cEnt γ A Y p s m args meth c) (hd : decode Y.2.1 pc = .ok (.ldc idx, 2)) (hr : (Y.1.cls, idx, i) ∈ xsl) (k : cJ p e R s m args below meth c γ A Y Z (pc + 2) lv (.ref (γ.2.2.1 (900 + i)) :: st) ws tys cells slots) : cJ p e R s m args below meth c γ A Y Z pc lv st ws tys cells slots :=
  fun H locs ls hP hK hD hS hl => va_ldcS E.1 E.2.1 E.2.2.2.1 (E.2.2.2.2.2.2.2.2.2.2.2.1.2.2.2.1 _ hr) hd (k H locs ls hP hK hD hS hl)
theorem cJ.astore {n : Fin 4} {x : Nat} (E : cEnt γ A Y p s m args meth c) (hd : decode Y.2.1 pc = .ok (.astore_n n, 1)) (hn : (n : Nat) < Y.2.2.1) (k : cJ p e R s m args below meth c γ A Y Z (pc + 1) ((n, .ref x) :: lv.filter (fun q => !(q.1 == (n : Nat)) && !(q.1 + 1 == (n : Nat) && q.2.category == 2))) st ws tys cells slots) : cJ p e R s m args below meth c γ A Y Z pc lv (.ref x :: st) ws tys cells slots :=
  fun H locs ls hP hK hD hS hl => lv_astore_n E.1 E.2.1 hd rfl hl hn rfl (fun ls hl => k H locs ls hP hK hD hS hl)
end CONS
/-- a constructor's contract: its world, and what it has made -/
def cQ (γ : xG1) (wc : va_W) (sz : Nat) (post : va_W → List (ClassId × FieldType) → Prop) : Array Value → State → Outcome → State → Prop := va_Qv (fun u : va_W × List (ClassId × FieldType) => post u.1 u.2) (fun u t => va_P γ.2.1 xcl u.1 t.heap ∧ va_K γ.2.1 xcl u.2 t ∧ va_D (va_A wc sz) u.1) (va_A wc sz)
def cM (γ : xG1) (Y : xMth) (R : Room) (as : List Value) (wc : va_W) (post : va_W → List (ClassId × FieldType) → Prop) : Prop :=
  ∀ sz, Met γ.1 Y.1 (xCw Y :: lw_gd) R (va_Pc as (fun U => U.heap.size = sz ∧ va_P γ.2.1 xcl wc U.heap ∧ va_K γ.2.1 xcl [] U ∧ va_D (fun _ => True) wc ∧ cPre γ wc U)) (cQ γ wc sz post) R.cells R.slots (va_A wc sz)
section CONS2
variable {γ : xG1} {Y : xMth} {R : Room} {as : List Value} {wc : va_W} {post : va_W → List (ClassId × FieldType) → Prop}
theorem cM.of (hy : plainName Y.1.cls = true) (hh : Y.2.2.2.2 = []) (hr : Y.2.2.2.1 = none) (hlen : (lg_sl as).length ≤ Y.2.2.1)
    (body : ∀ (p : Program) (e : Env) (s : State) (m : MethodId) (args : Array Value) (below : List Frame) (meth : Method) (c : Code) (A : Nat → Prop) (Z : State → Prop), A = va_A wc s.heap.size → cEnt γ A Y p s m args meth c → (∀ t, MQ below (cQ γ wc s.heap.size post) args s R.cells R.slots A t → Z t) → (∀ (pc : Nat) lv ws tys, decode Y.2.1 pc = .ok (.return_, 1) → post ws tys → cJ p e R s m args below meth c γ A Y Z pc lv [] ws tys R.cells R.slots) → cJ p e R s m args below meth c γ A Y Z 0 (lv_args 0 as) [] wc [] 0 0) : cM γ Y R as wc post := by
  intro sz
  have hcw : xCw Y = Cond.code Y.1 Y.2.1 Y.2.2.1 Y.2.2.2.1 := by unfold xCw; rw [hh]
  refine Met.ofW (cc := Y.2.1) (maxL := Y.2.2.1) (ret := Y.2.2.2.1) (ws' := lw_gd) hy (by rw [hcw]) ?_
  intro p e s m args below meth c s₁ B hml hv
  obtain ⟨rfl, hsz, hP, hK, hD0, hpre⟩ := hv
  have hts := atoms_spec (ws := xCw Y :: lw_gd) B.pre
  have hown : s.vm.findClass Y.1.cls = some m.cls := findClass_of_methodNamed B.named
  have hnm : meth.name = Y.1.name := (name_of_methodNamed B.named B.method).1
  obtain ⟨meth', c', h1, h2, h3, h4, h5, h6, h7, -⟩ := xCw_spec (hts _ List.mem_cons_self) B.named
  have X₀ := Stand.of_body B
  cases B.method.symm.trans h1
  cases X₀.code.symm.trans h2
  subst hsz
  have E : cEnt γ (va_A wc s.heap.size) Y p s m as.toArray meth c := ⟨B.exec, B.bytes, hml, hown, fun w h => hts w (List.mem_cons_of_mem _ h), by rw [hnm]; exact Classical.em _, B.returns, B.notSynchronized, h7, hpre.bd⟩
  have hD := hD0.self (sz := s.heap.size)
  have hl := lv_entry as (n := Y.2.2.1) hlen
  rw [lg_entry_eq]
  refine body p e s m as.toArray below meth c (va_A wc s.heap.size) _ rfl E (fun t h => h) (fun pc lv ws tys hd hpost H locs ls hP hK hD hS hl => ?_) s.heap [] _ hP hK hD va_S.rf hl
  have hlocks := B.notSynchronized
  exact W.vret B.exec B.bytes (B.returns.trans hr) (fun t ht hW => ⟨⟨(ws, tys), rfl, hpost, by rw [ht]; exact hP, va_K.moved hW.alike hK, hD⟩, hS.F ht⟩) hS.2.2 hd
variable {p : Program} {e : Env} {R' : Room} {s : State} {m : MethodId} {args : Array Value} {below : List Frame} {meth : Method} {c : Code} {A : Nat → Prop} {Y' : xMth} {Z : State → Prop} {pc : Nat} {lv : List (Nat × Value)} {st : List Value} {ws wr : va_W} {tys : List (ClassId × FieldType)} {cells slots : Nat}
/-- what the tables say of a constructor -/
def cYc (Y : xMth) (n : Nat) : Prop := (Y.2.2.2.2 = [] ∧ Y.2.2.2.1 = none) ∧ xCw Y ∈ lw_gd ∧ Cond.initialized Y.1.cls ∈ lw_gd ∧ Cond.instanceMethod Y.1 ∈ lw_gd ∧ Y.1.name = "<init>" ∧ (Y.1.cls ≠ "java/lang/invoke/MethodHandle" ∧ Y.1.cls ≠ "java/lang/invoke/VarHandle" ∧ (parseMethodDescriptor Y.1.desc).map (fun d => d.parameters.length) = some n)
/-- a constructor is called -/
theorem cJ.call {idx n b : Nat} {As stk : List Value} (E : cEnt γ A Y' p s m args meth c) (hM : cM γ Y R (.ref b :: As) wc post) (hy : cYc Y n) (hd : decode Y'.2.1 pc = .ok (.invokespecial idx, 3)) (hl1 : Cond.methodLink Y'.1.cls idx Y.1 ∈ lw_gd ∨ ∃ h, (Y'.1.cls, idx, Y.1, h) ∈ xnl) (hn : As.length = n)
    (hR : R.frames + 1 ≤ R'.frames ∧ 8 + (Y.2.2.1 + 11) + R.locals ≤ R'.locals) (hcl : cells + R.cells ≤ R'.cells) (hsl : slots + R.slots ≤ R'.slots) (hs : stk = As.reverse ++ .ref b :: st) (hW : (st.map fun v => v.category).sum ≤ 8) (isC isR : List Nat) (hC : isC.map (fun i => ws[i]?) = wc.map some) (hRr : isR.map (fun i => ws[i]?) = wr.map some) (hn1 : va_nd isR = true) (hn2 : va_nd isC = true) (hdis : ∀ i ∈ isR, i ∉ isC)
    (k : ∀ w1 ty1, post w1 ty1 → cJ p e R' s m args below meth c γ A Y' Z (pc + 3) lv st (wr ++ w1) (tys ++ ty1) (cells + R.cells) (slots + R.slots)) : cJ p e R' s m args below meth c γ A Y' Z pc lv stk ws tys cells slots := by
  intro H locs ls hP hK hD hS hl
  obtain ⟨⟨hh, hr⟩, hY, hi, hin, hy1, hy2⟩ := hy
  have hcw : xCw Y = Cond.code Y.1 Y.2.1 Y.2.2.1 none := by unfold xCw; rw [hh, hr]
  have hPc : va_P γ.2.1 xcl wc H := hP.sub (ws' := wc) isC (by
    have : isC.filterMap (fun i => ws[i]?) = (isC.map (fun i => ws[i]?)).filterMap id := by rw [List.filterMap_map]; rfl
    rw [this, hC, List.filterMap_map]
    exact List.filterMap_some)
  have hDc : va_D A wc := hD.sub isC hn2 hC
  have hFc := va_free (wc := wc) hD hS E.2.2.2.2.2.2.2.2.2.1 isC hC
  have hpre : PreS s H (va_Pc (.ref b :: As) (fun U => U.heap.size = H.size ∧ va_P γ.2.1 xcl wc U.heap ∧ va_K γ.2.1 xcl [] U ∧ va_D (fun _ => True) wc ∧ cPre γ wc U)) (.ref b :: As) :=
    ⟨fun a U g mk q => by obtain ⟨q0, q1, qP, qK, qD, qE⟩ := q; exact ⟨q0, q1, qP, va_K.moved (u := U) (U := U.calling g mk a) (Vm.Alike.refl U.vm) qK, qD, qE.frm g mk a⟩, fun U hU hW => ⟨rfl, by rw [hU], by rw [hU]; exact hPc, va_K.moved hW.alike (hK.sub (tys' := []) [] rfl), hDc.weaken (fun _ _ _ _ => trivial), E.2.2.2.2.2.2.2.2.2.pre hW hS hU hDc⟩⟩
  have hrun : va_Run p γ.1 e R' s m args below meth c H locs cells slots R.cells R.slots (F0 m pc ls stk) st (cQ γ wc H.size post (Value.ref b :: As).toArray) (va_A wc H.size) := by
    rcases hl1 with hl1 | ⟨host, hl1⟩
    · exact va_runI (As := As) (rest := st) ⟨E.1, E.2.1, E.2.2.1, E.2.2.2.1, E.2.2.2.2.1⟩ (hM H.size) (cwI n E.2.2.2.2.1 (good_in (fun _ h => h) hY) (by rw [hcw]) rfl rfl (E.2.2.2.2.1 _ hi) (E.2.2.2.2.1 _ hl1) (E.2.2.2.2.1 _ hin) hy1 hy2 hR) hpre rfl hn hl.1 (by rw [hs]) (lv_room hW) hd ⟨hcl, hsl⟩
    · have hN := E.2.2.2.2.2.2.2.2.2.2.2.2.2.2.2.2 _ hl1
      exact va_runIN (As := As) (rest := st) ⟨E.1, E.2.1, E.2.2.1, E.2.2.2.1, E.2.2.2.2.1⟩ (hM H.size) ⟨va_cnB n E.2.2.2.2.1 (good_in (fun _ h => h) hY) (by rw [hcw]) rfl rfl hN (E.2.2.2.2.1 _ hi) hy2 hR, hy1, E.2.2.2.2.1 _ hin⟩ hpre rfl hn hl.1 (by rw [hs]) (lv_room hW) hd ⟨hcl, hsl⟩
  refine va_callv hrun hS (fun q _ h => hFc q h) hFc (fun u t H1 locs1 ht hvm hw hB hz1 hk1 hS1 => ?_)
  obtain ⟨w1, ty1⟩ := u
  obtain ⟨hP1, hK1, hD1⟩ := hB
  rw [ht] at hP1
  have hK1 := va_K.moved hvm.symm hK1
  obtain ⟨hP2, hD2⟩ := va_join (wr := wr) (w1 := w1) hP hD isC isR hC hRr hn1 hdis hk1 hFc hP1 hD1
  exact k w1 ty1 hw H1 locs1 ls hP2 (hK.app hK1) hD2 hS1 hl
theorem pw_D {A : Nat → Prop} {ws : va_W} (h : va_D A ws) : ws.Pairwise (fun p q => p.1 ≠ q.1) := by
  rw [List.pairwise_iff_getElem]
  intro i j hi hj hij e
  have := h.1 i j ws[i] ws[j] (List.getElem?_eq_getElem hi) (List.getElem?_eq_getElem hj) e
  omega
theorem D_pw {A : Nat → Prop} {ws : va_W} (h : ws.Pairwise (fun p q => p.1 ≠ q.1)) (h2 : ∀ q ∈ ws, A q.1) : va_D A ws := by
  rw [List.pairwise_iff_getElem] at h
  refine ⟨fun i j p q hi hj e => ?_, fun k q hk => h2 q (List.mem_of_getElem? hk)⟩
  obtain ⟨a1, rfl⟩ := List.getElem?_eq_some_iff.mp hi
  obtain ⟨a2, rfl⟩ := List.getElem?_eq_some_iff.mp hj
  rcases Nat.lt_trichotomy i j with z | z | z
  · exact absurd e (h i j a1 a2 z)
  · exact z
  · exact absurd e.symm (h j i a2 a1 z)
theorem cJ.permP {ws' : va_W} (h : ws.Perm ws') (k : cJ p e R s m args below meth c γ A Y Z pc lv st ws' tys cells slots) : cJ p e R s m args below meth c γ A Y Z pc lv st ws tys cells slots := by
  intro H locs ls hP hK hD hS hl
  refine k H locs ls (fun i q hq => ?_) hK (D_pw (h.pairwise (pw_D hD) (fun z => z.symm)) (fun q hq => ?_)) hS hl
  · obtain ⟨j, hj⟩ := List.mem_iff_getElem?.mp (h.mem_iff.mpr (List.mem_of_getElem? hq))
    exact hP j q hj
  · obtain ⟨j, hj⟩ := List.mem_iff_getElem?.mp (h.mem_iff.mpr hq)
    exact hD.2 j q hj
theorem va_nd_of : ∀ {l : List Nat}, l.Nodup → va_nd l = true
  | [], _ => rfl
  | a :: l, h => by
    have h' := List.nodup_cons.mp h
    simp only [va_nd, Bool.and_eq_true, decide_eq_true_eq]
    exact ⟨h'.1, va_nd_of h'.2⟩
theorem rng_l {W1 W2 : va_W} : (List.range W1.length).map (fun i => (W1 ++ W2)[i]?) = W1.map some := by
  apply List.ext_getElem?
  intro i
  by_cases h : i < W1.length
  · simp [h, List.getElem?_append_left]
  · simp [h]
theorem rng_r {W1 W2 : va_W} : ((List.range W2.length).map (W1.length + ·)).map (fun i => (W1 ++ W2)[i]?) = W2.map some := by
  apply List.ext_getElem?
  intro i
  by_cases h : i < W2.length
  · simp [h, List.getElem?_append_right]
  · simp [h]
theorem cJ.callP {idx n b : Nat} {As stk : List Value} (E : cEnt γ A Y' p s m args meth c) (hM : cM γ Y R (.ref b :: As) wc post) (hy : cYc Y n) (hd : decode Y'.2.1 pc = .ok (.invokespecial idx, 3)) (hl1 : Cond.methodLink Y'.1.cls idx Y.1 ∈ lw_gd ∨ ∃ h, (Y'.1.cls, idx, Y.1, h) ∈ xnl) (hn : As.length = n)
    (hR : R.frames + 1 ≤ R'.frames ∧ 8 + (Y.2.2.1 + 11) + R.locals ≤ R'.locals) (hcl : cells + R.cells ≤ R'.cells) (hsl : slots + R.slots ≤ R'.slots) (hs : stk = As.reverse ++ .ref b :: st) (hW : (st.map fun v => v.category).sum ≤ 8) (hp : ws.Perm (wc ++ wr))
    (k : ∀ w1 ty1, post w1 ty1 → cJ p e R' s m args below meth c γ A Y' Z (pc + 3) lv st (wr ++ w1) (tys ++ ty1) (cells + R.cells) (slots + R.slots)) : cJ p e R' s m args below meth c γ A Y' Z pc lv stk ws tys cells slots := by
  refine cJ.permP hp ?_
  refine cJ.call E hM hy hd hl1 hn hR hcl hsl hs hW (List.range wc.length) ((List.range wr.length).map (wc.length + ·)) rng_l rng_r (va_nd_of ?_) (va_nd_of List.nodup_range) ?_ k
  · refine List.Pairwise.map _ (fun a b h z => h (by omega)) List.nodup_range
  · intro i hi z
    obtain ⟨a, -, rfl⟩ := List.mem_map.mp hi
    have := List.mem_range.mp z
    omega
/-! this stands first in the list -/
variable {t0 bk x : Nat × va_E} {W0 : va_W}
theorem cJ.call0 {idx n b : Nat} {As stk : List Value} (E : cEnt γ A Y' p s m args meth c) (hM : cM γ Y R (.ref b :: As) [x] post) (hy : cYc Y n) (hd : decode Y'.2.1 pc = .ok (.invokespecial idx, 3)) (hl1 : Cond.methodLink Y'.1.cls idx Y.1 ∈ lw_gd ∨ ∃ h, (Y'.1.cls, idx, Y.1, h) ∈ xnl) (hn : As.length = n)
    (hR : R.frames + 1 ≤ R'.frames ∧ 8 + (Y.2.2.1 + 11) + R.locals ≤ R'.locals) (hcl : cells + R.cells ≤ R'.cells) (hsl : slots + R.slots ≤ R'.slots) (hs : stk = As.reverse ++ .ref b :: st) (hW : (st.map fun v => v.category).sum ≤ 8)
    (k : ∀ w1 ty1, post w1 ty1 → cJ p e R' s m args below meth c γ A Y' Z (pc + 3) lv st (t0 :: (W0 ++ w1)) (tys ++ ty1) (cells + R.cells) (slots + R.slots)) : cJ p e R' s m args below meth c γ A Y' Z pc lv stk (t0 :: (W0 ++ [x])) tys cells slots :=
  cJ.callP (wr := t0 :: W0) E hM hy hd hl1 hn hR hcl hsl hs hW (List.perm_append_comm (l₁ := t0 :: W0) (l₂ := [x])) k
theorem cJ.call1 {idx n b : Nat} {As stk : List Value} (E : cEnt γ A Y' p s m args meth c) (hM : cM γ Y R (.ref b :: As) [x, bk] post) (hy : cYc Y n) (hd : decode Y'.2.1 pc = .ok (.invokespecial idx, 3)) (hl1 : Cond.methodLink Y'.1.cls idx Y.1 ∈ lw_gd ∨ ∃ h, (Y'.1.cls, idx, Y.1, h) ∈ xnl) (hn : As.length = n)
    (hR : R.frames + 1 ≤ R'.frames ∧ 8 + (Y.2.2.1 + 11) + R.locals ≤ R'.locals) (hcl : cells + R.cells ≤ R'.cells) (hsl : slots + R.slots ≤ R'.slots) (hs : stk = As.reverse ++ .ref b :: st) (hW : (st.map fun v => v.category).sum ≤ 8)
    (k : ∀ w1 ty1, post w1 ty1 → ∃ x1 w2, w1 = x1 :: bk :: w2 ∧ cJ p e R' s m args below meth c γ A Y' Z (pc + 3) lv st (t0 :: bk :: (W0 ++ (x1 :: w2))) (tys ++ ty1) (cells + R.cells) (slots + R.slots)) : cJ p e R' s m args below meth c γ A Y' Z pc lv stk (t0 :: bk :: (W0 ++ [x])) tys cells slots := by
  refine cJ.callP (wr := t0 :: W0) E hM hy hd hl1 hn hR hcl hsl hs hW ?_ (fun w1 ty1 hp => ?_)
  · show (t0 :: bk :: (W0 ++ [x])).Perm (x :: bk :: t0 :: W0)
    have h1 : (t0 :: bk :: (W0 ++ [x])).Perm (t0 :: bk :: x :: W0) := ((List.perm_append_comm (l₁ := W0) (l₂ := [x])).cons bk).cons t0
    refine h1.trans ?_
    have h2 : (t0 :: bk :: x :: W0).Perm (t0 :: x :: bk :: W0) := (List.Perm.swap x bk W0).cons t0
    have h3 : (t0 :: x :: bk :: W0).Perm (x :: t0 :: bk :: W0) := List.Perm.swap x t0 _
    have h4 : (x :: t0 :: bk :: W0).Perm (x :: bk :: t0 :: W0) := (List.Perm.swap bk t0 W0).cons x
    exact h2.trans (h3.trans h4)
  · obtain ⟨x1, w2, rfl, K⟩ := k w1 ty1 hp
    refine cJ.permP ?_ K
    show (t0 :: (W0 ++ (x1 :: bk :: w2))).Perm (t0 :: bk :: (W0 ++ (x1 :: w2)))
    refine List.Perm.cons t0 ?_
    have h1 : (W0 ++ (x1 :: bk :: w2)).Perm (W0 ++ (bk :: x1 :: w2)) := List.Perm.append_left W0 (List.Perm.swap bk x1 w2)
    exact h1.trans List.perm_middle
theorem cJ.new0 {idx ci : Nat} {C : String} {T : u_T} {N : Nat} (E : cEnt γ A Y p s m args meth c) (hd : decode Y.2.1 pc = .ok (.new idx, 3)) (hc : xcl[ci]? = some (C, T, N)) (h1 : Cond.classLink Y.1.cls idx C ∈ lw_gd) (h2 : Cond.instantiable C N ∈ lw_gd) (h3 : Cond.initialized C ∈ lw_gd) (hcl : cells + 1 ≤ R.cells) (hsl : slots + N ≤ R.slots)
    (k : ∀ q, cJ p e R s m args below meth c γ A Y Z (pc + 3) lv (.ref q :: st) (t0 :: (W0 ++ [(q, .inr (ci, dfl ci))])) tys (cells + 1) (slots + N)) : cJ p e R s m args below meth c γ A Y Z pc lv st (t0 :: W0) tys cells slots :=
  cJ.new E hd hc h1 h2 h3 hcl hsl k
theorem cJ.new1 {idx ci : Nat} {C : String} {T : u_T} {N : Nat} (E : cEnt γ A Y p s m args meth c) (hd : decode Y.2.1 pc = .ok (.new idx, 3)) (hc : xcl[ci]? = some (C, T, N)) (h1 : Cond.classLink Y.1.cls idx C ∈ lw_gd) (h2 : Cond.instantiable C N ∈ lw_gd) (h3 : Cond.initialized C ∈ lw_gd) (hcl : cells + 1 ≤ R.cells) (hsl : slots + N ≤ R.slots)
    (k : ∀ q, cJ p e R s m args below meth c γ A Y Z (pc + 3) lv (.ref q :: st) (t0 :: bk :: (W0 ++ [(q, .inr (ci, dfl ci))])) tys (cells + 1) (slots + N)) : cJ p e R s m args below meth c γ A Y Z pc lv st (t0 :: bk :: W0) tys cells slots :=
  cJ.new E hd hc h1 h2 h3 hcl hsl k
theorem cJ.arr1 {idx ci j a : Nat} {fs : List Value} {rest : va_W} {atype : ArrayType} {ty : FieldType} {n : Int32} {N : Nat} {a0 : vp_A} (E : cEnt γ A Y p s m args meth c) (hd : decode Y.2.1 pc = .ok (.newarray atype, 2)) (hty : newarray.typeOf atype = ty) (harr : Cond.arrayClass ty ∈ lw_gd) (ha : ∀ cA : ClassId, vp_cell cA a0 = arrV cA N (fun _ => defaultValue ty)) (hn : ¬ n < 0) (hN : n.toNatClampNeg = N) (hby : N * componentBytes ty ≤ 536870912) (hcl : cells + 1 ≤ R.cells) (hsl : slots + N ≤ R.slots)
    (hd2 : decode Y.2.1 (pc + 2) = .ok (.putfield idx, 3)) (hf : xFl Y.1.cls idx ci j) (hfin : xfin ci j = true) (hY : Y.1.name = "<init>") (hdc : (xF ci j).1 = Y.1.cls) (hty2 : xty ci j = .array ty) (hl0 : j < fs.length)
    (k : ∀ q cA, cJ p e R s m args below meth c γ A Y Z (pc + 5) lv st ((a, .inr (ci, fs.set j (.ref q))) :: bk :: (rest ++ [(q, .inl (cA, a0))])) (tys ++ [(cA, ty)]) (cells + 1) (slots + N)) : cJ p e R s m args below meth c γ A Y Z pc lv (.int n :: .ref a :: st) ((a, .inr (ci, fs)) :: bk :: rest) tys cells slots :=
  cJ.arr (rest := bk :: rest) E hd hty harr ha hn hN hby hcl hsl hd2 hf hfin hY hdc hty2 hl0 k
theorem cJ.put0 {idx ci j a : Nat} {v : Value} {fs : List Value} {rest : va_W} (E : cEnt γ A Y p s m args meth c) (hd : decode Y.2.1 pc = .ok (.putfield idx, 3)) (hf : xFl Y.1.cls idx ci j) (hfin : xfin ci j = true) (hY : Y.1.name = "<init>") (hdc : (xF ci j).1 = Y.1.cls) (hn : narrow (xty ci j) v = v) (hfit : fits (xty ci j) v = true) (hl0 : j < fs.length)
    (k : cJ p e R s m args below meth c γ A Y Z (pc + 3) lv st ((a, .inr (ci, fs.set j v)) :: rest) tys cells slots) : cJ p e R s m args below meth c γ A Y Z pc lv (v :: .ref a :: st) ((a, .inr (ci, fs)) :: rest) tys cells slots :=
  cJ.putF E hd hf hfin hY hdc 0 (a := a) (fs := fs) rfl hn hfit hl0 k
theorem cJ.putI {idx ci j a : Nat} {v : Value} {fs : List Value} {rest : va_W} (E : cEnt γ A Y p s m args meth c) (hd : decode Y.2.1 pc = .ok (.putfield idx, 3)) (hf : xFl Y.1.cls idx ci j) (hfin : xfin ci j = false) (hn : narrow (xty ci j) v = v) (hfit : fits (xty ci j) v = true) (hl0 : j < fs.length)
    (k : cJ p e R s m args below meth c γ A Y Z (pc + 3) lv st ((a, .inr (ci, fs.set j v)) :: rest) tys cells slots) : cJ p e R s m args below meth c γ A Y Z pc lv (v :: .ref a :: st) ((a, .inr (ci, fs)) :: rest) tys cells slots :=
  cJ.put E hd hf hfin 0 (a := a) (fs := fs) rfl hn hfit hl0 k
end CONS2
