/-! THE ABSTRACT MACHINE. A state σ: what the int slots and the long slots of the world's cells hold (by the cell's number and the place), and how many exceptions may still be made. The cells themselves, their classes, their references and lengths are fixed: xSp (the whole world's: SHP). -/
/-- besides the world's shape -/
abbrev xG1 : Type := Launch × va_G × (Nat → Nat) × (Nat → ClassId) × Nat × Nat × Nat × (Nat → Int32)
abbrev xG : Type := List xSh × xG1
abbrev xMth : Type := MethodName × ByteArray × Nat × Option FieldType × List (Nat × Nat × Nat × Nat)
abbrev xS : Type := (Nat → Nat → Int32) × (Nat → Nat → Int64) × Nat
/-- how a method ends: with an answer, or with an exception (its place in xexc) -/
abbrev xO : Type := Option Value ⊕ Nat
abbrev xSp (Γ : xG) : List xSh := Γ.1
abbrev xLa (Γ : xG) : Launch := Γ.2.1
abbrev xD (Γ : xG) : va_G := Γ.2.2.1
abbrev xad (Γ : xG) : Nat → Nat := Γ.2.2.2.1
abbrev xcA (Γ : xG) : Nat → ClassId := Γ.2.2.2.2.1
abbrev xbs (Γ : xG) : Nat := Γ.2.2.2.2.2.1
/-- the law's script: its address, its length, its ints -/
abbrev xsb (Γ : xG) : Nat := Γ.2.2.2.2.2.2.1
abbrev xsL (Γ : xG) : Nat := Γ.2.2.2.2.2.2.2.1
abbrev xsx (Γ : xG) : Nat → Int32 := Γ.2.2.2.2.2.2.2.2
abbrev xA (Γ : xG) : Nat → Prop := fun q => ∃ k, k < (xSp Γ).length ∧ q = xad Γ k
def xi (σ : xS) (k j : Nat) : Int32 := σ.1 k j
def xl (σ : xS) (k j : Nat) : Int64 := σ.2.1 k j
def xb (σ : xS) : Nat := σ.2.2
def xpi (σ : xS) (k j : Nat) (v : Int32) : xS := (fun a b => if a = k ∧ b = j then v else σ.1 a b, σ.2)
def xpl (σ : xS) (k j : Nat) (v : Int64) : xS := (σ.1, fun a b => if a = k ∧ b = j then v else σ.2.1 a b, σ.2.2)
def xpb (σ : xS) (n : Nat) : xS := (σ.1, σ.2.1, n)
theorem xi_pi (σ : xS) (k j a b : Nat) (v : Int32) : xi (xpi σ k j v) a b = if a = k ∧ b = j then v else xi σ a b := rfl
theorem xi_pl (σ : xS) (k j a b : Nat) (v : Int64) : xi (xpl σ k j v) a b = xi σ a b := rfl
theorem xl_pl (σ : xS) (k j a b : Nat) (v : Int64) : xl (xpl σ k j v) a b = if a = k ∧ b = j then v else xl σ a b := rfl
theorem xl_pi (σ : xS) (k j a b : Nat) (v : Int32) : xl (xpi σ k j v) a b = xl σ a b := rfl
theorem xb_pi (σ : xS) (k j : Nat) (v : Int32) : xb (xpi σ k j v) = xb σ := rfl
theorem xb_pl (σ : xS) (k j : Nat) (v : Int64) : xb (xpl σ k j v) = xb σ := rfl
theorem xb_pb (σ : xS) (n : Nat) : xb (xpb σ n) = n := rfl
theorem xi_pb (σ : xS) (n a b : Nat) : xi (xpb σ n) a b = xi σ a b := rfl
theorem xl_pb (σ : xS) (n a b : Nat) : xl (xpb σ n) a b = xl σ a b := rfl
/-- a value of ours, as the machine has it: references by their addresses -/
def xV (Γ : xG) : Value → Value
  | .ref k => .ref (xad Γ k)
  | v => v
theorem xV_cat (Γ : xG) (v : Value) : (xV Γ v).category = v.category := by cases v <;> rfl
/-- locals by their places -/
def xg : List (Nat × Value) → Nat → Option Value
  | [], _ => none
  | q :: r, i => match Nat.beq q.1 i with
    | true => some q.2
    | false => xg r i
theorem xg_mem : ∀ {lv : List (Nat × Value)} {i : Nat} {v : Value}, xg lv i = some v → (i, v) ∈ lv
  | [], _, _, h => by cases h
  | q :: r, i, v, h => by
    unfold xg at h
    split at h
    · next hb => cases h; exact (Nat.eq_of_beq_eq_true hb) ▸ List.mem_cons_self
    · exact List.mem_cons_of_mem _ (xg_mem h)
def xLv (Γ : xG) (lv : List (Nat × Value)) : List (Nat × Value) := lv.map fun q => (q.1, xV Γ q.2)
theorem xLv_at {Γ : xG} {ls : Array Slot} {n i : Nat} {lv : List (Nat × Value)} {v : Value} (h : lv_has ls n (xLv Γ lv)) (hg : xg lv i = some v) : ls[i]? = some (.val (xV Γ v)) :=
  h.2.2 (i, xV Γ v) (List.mem_map.mpr ⟨(i, v), xg_mem hg, rfl⟩)
def xst (lv : List (Nat × Value)) (i : Nat) (v : Value) : List (Nat × Value) := (i, v) :: lv.filter (fun q => !(q.1 == i) && !(q.1 + 1 == i && q.2.category == 2))
def xst2 (lv : List (Nat × Value)) (i : Nat) (v : Value) : List (Nat × Value) := (i, v) :: lv.filter (fun q => !(q.1 == i) && (!(q.1 == i + 1) && !(q.1 + 1 == i && q.2.category == 2)))
theorem xLv_st {Γ : xG} (lv : List (Nat × Value)) (i : Nat) (v : Value) : (i, xV Γ v) :: (xLv Γ lv).filter (fun q => !(q.1 == i) && !(q.1 + 1 == i && q.2.category == 2)) = xLv Γ (xst lv i v) := by
  unfold xLv xst
  rw [List.map_cons, List.filter_map]
  congr 2
  apply List.filter_congr
  intro q _
  simp [xV_cat]
theorem xLv_st2 {Γ : xG} (lv : List (Nat × Value)) (i : Nat) (v : Value) : (i, xV Γ v) :: (xLv Γ lv).filter (fun q => !(q.1 == i) && (!(q.1 == i + 1) && !(q.1 + 1 == i && q.2.category == 2))) = xLv Γ (xst2 lv i v) := by
  unfold xLv xst2
  rw [List.map_cons, List.filter_map]
  congr 2
  apply List.filter_congr
  intro q _
  simp [xV_cat]
/-- every entry of the first list is found in the second -/
def xsub : List (Nat × Value) → List (Nat × Value) → Prop
  | [], _ => True
  | q :: r, lv => xg lv q.1 = some q.2 ∧ xsub r lv
theorem xsub_mem : ∀ {l' lv : List (Nat × Value)}, xsub l' lv → ∀ q ∈ l', q ∈ lv
  | [], _, _, _, h => by cases h
  | a :: r, lv, h, q, hq => by
    rcases List.mem_cons.mp hq with rfl | hq
    · exact xg_mem h.1
    · exact xsub_mem h.2 q hq
theorem xLv_sub {Γ : xG} {ls : Array Slot} {n : Nat} {l' lv : List (Nat × Value)} (h : lv_has ls n (xLv Γ lv)) (hs : xsub l' lv) : lv_has ls n (xLv Γ l') := by
  refine ⟨h.1, h.2.1, fun q hq => ?_⟩
  obtain ⟨a, ha, rfl⟩ := List.mem_map.mp hq
  exact h.2.2 _ (List.mem_map.mpr ⟨a, xsub_mem hs a ha, rfl⟩)
/-! the world -/
def xfv (Γ : xG) (σ : xS) (k ci : Nat) (rs : List (Option Nat)) (j : Nat) : Value := match xty ci j with
  | .long => .long (xl σ k j)
  | .object _ => va_rf ((rs.getD j none).map (xad Γ))
  | .array _ => va_rf ((rs.getD j none).map (xad Γ))
  | _ => .int (xi σ k j)
def xfs (Γ : xG) (σ : xS) (k ci : Nat) (rs : List (Option Nat)) : List Value := (List.range (xN ci)).map (xfv Γ σ k ci rs)
def xar (σ : xS) (k : Nat) (ty : FieldType) : (Nat → Int32) ⊕ (Nat → Int64) ⊕ (Nat → UInt32) ⊕ (Nat → UInt64) ⊕ (Nat → Option Nat) := match ty with
  | .long => .inr (.inl (xl σ k))
  | _ => .inl (xi σ k)
def xE (Γ : xG) (σ : xS) (k : Nat) : va_E := match (xSp Γ)[k]? with
  | some (.inl (ci, rs)) => .inr (ci, xfs Γ σ k ci rs)
  | some (.inr (ty, n)) => .inl (xcA Γ k, n, xar σ k ty)
  | none => .inr (0, [])
def xWd (Γ : xG) (σ : xS) : va_W := (List.range (xSp Γ).length).map fun k => (xad Γ k, xE Γ σ k)
theorem xWd_at (Γ : xG) (σ : xS) {k : Nat} (h : k < (xSp Γ).length) : (xWd Γ σ)[k]? = some (xad Γ k, xE Γ σ k) := by
  simp [xWd, h]
theorem xWd_len (Γ : xG) (σ : xS) : (xWd Γ σ).length = (xSp Γ).length := by simp [xWd]
theorem xWd_lt {Γ : xG} {σ : xS} {k : Nat} {q : Nat × va_E} (h : (xWd Γ σ)[k]? = some q) : k < (xSp Γ).length ∧ q = (xad Γ k, xE Γ σ k) := by
  have hk : k < (xSp Γ).length := by
    have := (List.getElem?_eq_some_iff.mp h).1
    rwa [xWd_len] at this
  rw [xWd_at Γ σ hk] at h
  exact ⟨hk, (Option.some.inj h).symm⟩
/-- one cell turned -/
theorem xWd_set (Γ : xG) {σ σ' : xS} {k : Nat} (h : ∀ a, a ≠ k → xE Γ σ' a = xE Γ σ a) : (xWd Γ σ).set k (xad Γ k, xE Γ σ' k) = xWd Γ σ' := by
  apply List.ext_getElem?
  intro a
  by_cases ha : a < (xSp Γ).length
  · rw [List.getElem?_set, xWd_at Γ σ ha, xWd_at Γ σ' ha, xWd_len]
    by_cases e : k = a
    · subst e; simp [ha]
    · simp [e, h a (fun z => e z.symm)]
  · have h1 : ((xWd Γ σ).set k (xad Γ k, xE Γ σ' k)).length ≤ a := by rw [List.length_set, xWd_len]; omega
    have h2 : (xWd Γ σ').length ≤ a := by rw [xWd_len]; omega
    rw [List.getElem?_eq_none h1, List.getElem?_eq_none h2]
theorem xE_pi (Γ : xG) (σ : xS) {k j a : Nat} {v : Int32} (h : a ≠ k) : xE Γ (xpi σ k j v) a = xE Γ σ a := by
  have e1 : ∀ b, xi (xpi σ k j v) a b = xi σ a b := fun b => by rw [xi_pi, if_neg (fun z => h z.1)]
  have e2 : ∀ b, xl (xpi σ k j v) a b = xl σ a b := fun b => rfl
  unfold xE xfs xar xfv
  simp only [e1, e2, show xi (xpi σ k j v) a = xi σ a from funext e1, show xl (xpi σ k j v) a = xl σ a from funext e2]
theorem xE_pl (Γ : xG) (σ : xS) {k j a : Nat} {v : Int64} (h : a ≠ k) : xE Γ (xpl σ k j v) a = xE Γ σ a := by
  have e1 : ∀ b, xi (xpl σ k j v) a b = xi σ a b := fun b => rfl
  have e2 : ∀ b, xl (xpl σ k j v) a b = xl σ a b := fun b => by rw [xl_pl, if_neg (fun z => h z.1)]
  unfold xE xfs xar xfv
  simp only [e1, e2, show xi (xpl σ k j v) a = xi σ a from funext e1, show xl (xpl σ k j v) a = xl σ a from funext e2]
theorem xWd_pb (Γ : xG) (σ : xS) (n : Nat) : xWd Γ (xpb σ n) = xWd Γ σ := rfl
/-! the judgements -/
def xK (Γ : xG) (U : State) : Prop := (∀ (c : Nat) (q : vw_C), xcl[c]? = some q → u_Kn U q.1 q.2.1 q.2.2 ((xD Γ).1 c) ((xD Γ).2 c)) ∧ ∀ (k : Nat) (ty : FieldType) (n : Nat), (xSp Γ)[k]? = some (.inr (ty, n)) → ArrOfT U (xcA Γ k) ty ∧ va_RA U (xcA Γ k) ty
def xAd (Γ : xG) : Prop := ((∀ i j, i < (xSp Γ).length → j < (xSp Γ).length → xad Γ i = xad Γ j → i = j) ∧ ∀ k, k < (xSp Γ).length → xbs Γ ≤ xad Γ k) ∧ (xLa Γ).flags = pinnedFlags ++ [noTraceFlag] ∧ xad Γ 920 = xsb Γ ∧ ¬ xA Γ (xsb Γ)
theorem xK.moved {Γ : xG} {u U : State} (hvm : u.vm.Alike U.vm) (h : xK Γ u) : xK Γ U := ⟨fun c q hq => u_Kn_moved hvm (h.1 c q hq), fun k ty n hk => ⟨arrOfT_moved hvm (h.2 k ty n hk).1, (h.2 k ty n hk).2.moved hvm⟩⟩
theorem xK.va {Γ : xG} {U : State} (h : xK Γ U) : va_K (xD Γ) xcl [] U := ⟨h.1, fun k q hk => by simp at hk⟩
theorem xK.arr {Γ : xG} {U : State} (h : xK Γ U) {k n : Nat} {ty : FieldType} (hk : (xSp Γ)[k]? = some (.inr (ty, n))) : va_K (xD Γ) xcl [(xcA Γ k, ty)] U := ⟨h.1, fun j q hj => by
  have hz : j < 1 := (List.getElem?_eq_some_iff.mp hj).1
  obtain rfl : j = 0 := by omega
  cases hj
  exact h.2 k ty n hk⟩
theorem xAd.D {Γ : xG} (h : xAd Γ) (σ : xS) : va_D (xA Γ) (xWd Γ σ) := by
  refine ⟨fun i j p q hi hj hpq => ?_, fun k q hk => ?_⟩
  · obtain ⟨a1, rfl⟩ := xWd_lt hi
    obtain ⟨a2, rfl⟩ := xWd_lt hj
    exact h.1.1 i j a1 a2 hpq
  · obtain ⟨a1, rfl⟩ := xWd_lt hk
    exact ⟨k, a1, rfl⟩
theorem va_X.mv {b L : Nat} {xs : Nat → Int32} {u U : State} {H H1 : Heap} (hvm : u.vm.Alike U.vm) (h : va_X b L xs u H) (hq : H1[b]? = H[b]?) : va_X b L xs U H1 := by
  obtain ⟨scr, h1, h2, h3⟩ := h
  exact ⟨scr, hq.trans h1, State.isArrayOf_alike hvm h2, h3⟩
def xBody (Γ : xG) (U : State) : Prop := xK Γ U ∧ xAd Γ ∧ xbs Γ ≤ U.heap.size ∧ xRo (xad Γ) (xA Γ) U U.heap ∧ va_X (xsb Γ) (xsL Γ) (xsx Γ) U U.heap
theorem xBody.moved {Γ : xG} {s U : State} {H : Heap} {locs : List Loc} (h : xBody Γ s) (hW : s.WarmedH U.vm) (hS : va_S (xA Γ) s.heap H locs) (hU : U.heap = H) : xBody Γ U :=
  ⟨h.1.moved hW.alike, h.2.1, by rw [hU]; exact Nat.le_trans h.2.2.1 hS.1, by rw [hU]; exact (h.2.2.2.1.moved hW).kept hS.2.1, by rw [hU]; exact va_X.mv hW.alike h.2.2.2.2 (hS.2.1 _ (by obtain ⟨scr, h1, -⟩ := h.2.2.2.2; exact (Array.getElem?_eq_some_iff.mp h1).1) h.2.1.2.2.2)⟩
def xR (d b : Nat) : Room := { frames := d, cells := b * xec, slots := b * xes, locals := 64 * d }
def xEnt (Γ : xG) (Y : xMth) (R : Room) (p : Program) (e : Env) (s : State) (m : MethodId) (args : Array Value) (meth : Method) (c : Code) : Prop :=
  p.tables.exec = Jvm.exec ∧ c.code = Y.2.1 ∧ meth.sig.returnType = Y.2.2.2.1 ∧ c.maxLocals = Y.2.2.1 ∧ s.vm.findClass Y.1.cls = some m.cls ∧ (∀ w ∈ lw_gd, w.before args s = true) ∧ meth.locks = false ∧
  c.exceptionTable.toList.map (fun h => (h.startPc, h.endPc, h.handlerPc, h.catchType)) = Y.2.2.2.2 ∧ xBody Γ s
section ENT
variable {Γ : xG} {Y : xMth} {R : Room} {p : Program} {e : Env} {s : State} {m : MethodId} {args : Array Value} {meth : Method} {c : Code}
theorem xEnt.x (E : xEnt Γ Y R p e s m args meth c) : p.tables.exec = Jvm.exec := E.1
theorem xEnt.b (E : xEnt Γ Y R p e s m args meth c) : c.code = Y.2.1 := E.2.1
theorem xEnt.r (E : xEnt Γ Y R p e s m args meth c) : meth.sig.returnType = Y.2.2.2.1 := E.2.2.1
theorem xEnt.n (E : xEnt Γ Y R p e s m args meth c) : c.maxLocals = Y.2.2.1 := E.2.2.2.1
theorem xEnt.own (E : xEnt Γ Y R p e s m args meth c) : s.vm.findClass Y.1.cls = some m.cls := E.2.2.2.2.1
theorem xEnt.ts (E : xEnt Γ Y R p e s m args meth c) : ∀ w ∈ lw_gd, w.before args s = true := E.2.2.2.2.2.1
theorem xEnt.lk (E : xEnt Γ Y R p e s m args meth c) : meth.locks = false := E.2.2.2.2.2.2.1
theorem xEnt.tb (E : xEnt Γ Y R p e s m args meth c) : c.exceptionTable.toList.map (fun h => (h.startPc, h.endPc, h.handlerPc, h.catchType)) = Y.2.2.2.2 := E.2.2.2.2.2.2.2.1
theorem xEnt.bd (E : xEnt Γ Y R p e s m args meth c) : xBody Γ s := E.2.2.2.2.2.2.2.2
end ENT
def xOut (Γ : xG) (out : xO) (o : Outcome) (t : State) : Prop := match out with
  | .inl v => o = .returned (v.map (xV Γ))
  | .inr n => ∃ (x : Addr) (cell : Cell), o = .threw x ∧ t.heap[x]? = some cell ∧ cell.vm = .none ∧ t.vm.findClass (xexc.getD n "") = some cell.cls ∧ ∃ k, t.vm.classes[cell.cls]? = some k
def xEnd (Γ : xG) (Q : xO → xS → Prop) (s : State) (b0 : Nat) (o : Outcome) (t : State) : Prop :=
  ∃ (out : xO) (σ' : xS), xOut Γ out o t ∧ Q out σ' ∧ va_P (xD Γ) xcl (xWd Γ σ') t.heap ∧ va_F (xA Γ) s t ∧ xb σ' ≤ b0 ∧ s.WarmedH t.vm ∧
    ∃ L, s.sameButNew ({ t with vm := s.vm } : State) L ((b0 - xb σ') * xec) ((b0 - xb σ') * xes) ∧ ∀ q ∈ L, xA Γ q.base
def xZ (Γ : xG) (Q : xO → xS → Prop) (s : State) (below : List Frame) (b0 : Nat) : State → Prop := fun t => ∃ o, t.status = .running ∧ Ended t below o ∧ xEnd Γ Q s b0 o t
/-- THE MACHINE STANDS in method Y (room: level d, b0 exceptions) at pc, with these locals, this stack and this state, AND COMES TO AN END with Q -/
def xJ (Γ : xG) (Y : xMth) (d b0 pc : Nat) (lv : List (Nat × Value)) (st : List Value) (σ : xS) (Q : xO → xS → Prop) : Prop :=
  ∀ (p : Program) (e : Env) (s : State) (m : MethodId) (args : Array Value) (below : List Frame) (meth : Method) (c : Code), xEnt Γ Y (xR d b0) p e s m args meth c →
  ∀ (H : Heap) (locs : List Loc) (ls : Array Slot), va_P (xD Γ) xcl (xWd Γ σ) H → va_S (xA Γ) s.heap H locs → lv_has ls Y.2.2.1 (xLv Γ lv) → xb σ ≤ b0 →
  W p (xLa Γ) e (xR d b0) s m args below meth c H locs ((b0 - xb σ) * xec) ((b0 - xb σ) * xes) (xZ Γ Q s below b0) (F0 m pc ls (st.map (xV Γ)))
def xCw (Y : xMth) : Cond := match Y.2.2.2.2 with
  | [] => .code Y.1 Y.2.1 Y.2.2.1 Y.2.2.2.1
  | h :: t => .codeWith Y.1 Y.2.1 Y.2.2.1 Y.2.2.2.1 (h :: t)
/-- A METHOD'S CONTRACT: with these arguments, in this state, at level d, it ends with Q -/
def xM (Γ : xG) (Y : xMth) (d : Nat) (as : List Value) (σ : xS) (Q : xO → xS → Prop) : Prop :=
  MetFree (xLa Γ) Y.1 (headSpec (xCw Y :: lw_gd) (xR d (xb σ))) (fun v U => v = (as.map (xV Γ)).toArray ∧ xBody Γ U ∧ va_P (xD Γ) xcl (xWd Γ σ) U.heap) (fun _ _ _ _ _ => True) (fun _ s o t => xEnd Γ Q s (xb σ) o t)
theorem xCw_spec {Y : xMth} {args : Array Value} {s : State} {m : MethodId} (h : (xCw Y).before args s = true) (hn : s.methodNamed? Y.1 = some m) :
    ∃ meth c, s.vm.method? m = some meth ∧ meth.code = some c ∧ c.code = Y.2.1 ∧ c.maxLocals = Y.2.2.1 ∧ meth.sig.returnType = Y.2.2.2.1 ∧ meth.locks = false ∧ c.exceptionTable.toList.map (fun h => (h.startPc, h.endPc, h.handlerPc, h.catchType)) = Y.2.2.2.2 ∧ parseMethodDescriptor Y.1.desc = some meth.sig := by
  obtain ⟨y, cc, nL, rt, hh⟩ := Y
  cases hh with
  | nil =>
    obtain ⟨meth, c, h1, h2, h3, h4, h5, h6, h7, h8⟩ := Cond.code_spec hn h
    refine ⟨meth, c, h1, h2, h3, h4, h5, h6, ?_, h8⟩
    have : c.exceptionTable = #[] := Array.isEmpty_iff.mp h7
    rw [this]; rfl
  | cons a t =>
    obtain ⟨m', meth, c, h0, h1, h2, h3, h4, h5, h6, h7, h8⟩ := Cond.codeWith_spec (show (Cond.codeWith y cc nL rt (a :: t)).holds args s none s [] = true from h)
    cases hn.symm.trans h0
    exact ⟨meth, c, h1, h2, h3, h4, h6, h7, h5, h8⟩
theorem lv_args_map (Γ : xG) : ∀ (as : List Value) (n : Nat), lv_args n (as.map (xV Γ)) = xLv Γ (lv_args n as)
  | [], _ => rfl
  | v :: r, n => by
    show (n, xV Γ v) :: lv_args _ (r.map (xV Γ)) = (n, xV Γ v) :: xLv Γ (lv_args _ r)
    rw [lv_args_map Γ r, xV_cat]
theorem lg_sl_map (Γ : xG) : ∀ (as : List Value), (lg_sl (as.map (xV Γ))).length = (lg_sl as).length
  | [] => rfl
  | v :: r => by
    have := lg_sl_map Γ r
    cases v <;> simp_all [lg_sl, xV, Value.category]
section MM
variable {Γ : xG} {Y : xMth} {d : Nat} {as : List Value} {σ : xS} {Q : xO → xS → Prop}
/-- a contract out of the walk from the entry -/
theorem xM.of (hy : plainName Y.1.cls = true) (hlen : (lg_sl as).length ≤ Y.2.2.1) (body : xJ Γ Y d (xb σ) 0 (lv_args 0 as) [] σ Q) : xM Γ Y d as σ Q := by
  refine MetFree.of_bodyS (code := Y.2.1) (maxLocals := Y.2.2.1) (ret := Y.2.2.2.1) hy ?_ ?_
  · intro args s m h hn
    obtain ⟨meth, c, h1, h2, h3, h4, h5, h6, -, -⟩ := xCw_spec (atoms_spec (ws := xCw Y :: lw_gd) h _ List.mem_cons_self) hn
    exact ⟨meth, c, h1, h2, h3, h4, h5, h6⟩
  · intro p e s m args below meth c s₁ B hml hP _
    obtain ⟨rfl, hbd, hP⟩ := hP
    have hts0 := atoms_spec (ws := xCw Y :: lw_gd) B.pre
    obtain ⟨meth', c', h1, h2, h3, h4, h5, h6, h7, -⟩ := xCw_spec (hts0 _ List.mem_cons_self) B.named
    have X₀ := Stand.of_body B
    cases B.method.symm.trans h1
    cases X₀.code.symm.trans h2
    have E : xEnt Γ Y (xR d (xb σ)) p e s m (as.map (xV Γ)).toArray meth c := ⟨B.exec, B.bytes, B.returns, hml, findClass_of_methodNamed B.named, fun w hw => hts0 w (List.mem_cons_of_mem _ hw), B.notSynchronized, h7, hbd⟩
    have hl := lv_entry (as.map (xV Γ)) (n := Y.2.2.1) (by rw [lg_sl_map]; exact hlen)
    rw [lv_args_map] at hl
    have K := body p e s m (as.map (xV Γ)).toArray below meth c E s.heap [] _ hP va_S.rf hl (Nat.le_refl _)
    have hh0 : s₁.heap = s.heap := by rw [B.state]; rfl
    rw [Nat.sub_self, Nat.zero_mul, Nat.zero_mul] at K
    obtain ⟨t, a1, o, b1, b2, b3⟩ := K s₁ hh0 X₀
    refine ⟨t, o, ?_, b1, b2, b3⟩
    rw [lg_entry_eq]
    exact a1
theorem xM.mono {Q' : xO → xS → Prop} (h : xM Γ Y d as σ Q) (hq : ∀ o u, Q o u → Q' o u) : xM Γ Y d as σ Q' := by
  intro p e ha hc hk s m args below hf happ hP hK
  obtain ⟨n, o, h1, h2, h3, out, σ', g1, g2, g3⟩ := h p e ha hc hk s m args below hf happ hP hK
  exact ⟨n, o, h1, h2, h3, out, σ', g1, hq _ _ g2, g3⟩
end MM
section JJ
variable {Γ : xG} {Y : xMth} {d b0 pc : Nat} {lv : List (Nat × Value)} {st : List Value} {σ : xS} {Q : xO → xS → Prop}
theorem xJ.mono {Q' : xO → xS → Prop} (h : xJ Γ Y d b0 pc lv st σ Q) (hq : ∀ o u, Q o u → Q' o u) : xJ Γ Y d b0 pc lv st σ Q' := by
  intro p e s m args below meth c E H locs ls hP hS hl hb T hT X
  obtain ⟨t, a, o, h1, h2, out, σ', g1, g2, g3⟩ := h p e s m args below meth c E H locs ls hP hS hl hb T hT X
  exact ⟨t, a, o, h1, h2, out, σ', g1, hq _ _ g2, g3⟩
/-- fewer locals, in another order -/
theorem xJ.lvs {l' : List (Nat × Value)} (hs : xsub l' lv) (h : xJ Γ Y d b0 pc l' st σ Q) : xJ Γ Y d b0 pc lv st σ Q :=
  fun p e s m args below meth c E H locs ls hP hS hl hb => h p e s m args below meth c E H locs ls hP hS (xLv_sub hl hs) hb
/-- a number on the stack gets a name -/
theorem xJ.topi {x : Int32} (k : ∀ y : Int32, y = x → xJ Γ Y d b0 pc lv (.int y :: st) σ Q) : xJ Γ Y d b0 pc lv (.int x :: st) σ Q := k x rfl
theorem xJ.topl {x : Int64} (k : ∀ y : Int64, y = x → xJ Γ Y d b0 pc lv (.long y :: st) σ Q) : xJ Γ Y d b0 pc lv (.long x :: st) σ Q := k x rfl
/-! locals -/
theorem xJ.iload_n {n : Fin 4} {x : Int32} (hd : decode Y.2.1 pc = .ok (.iload_n n, 1)) (hg : xg lv n = some (.int x)) (k : xJ Γ Y d b0 (pc + 1) lv (.int x :: st) σ Q) : xJ Γ Y d b0 pc lv st σ Q := fun p e s m args below meth c E H locs ls hP hS hl hb => lv_iload_n E.x E.b hd rfl (xLv_at hl hg) (k p e s m args below meth c E H locs ls hP hS hl hb)
theorem xJ.iload {n : Nat} {x : Int32} (hd : decode Y.2.1 pc = .ok (.iload n, 2)) (hg : xg lv n = some (.int x)) (k : xJ Γ Y d b0 (pc + 2) lv (.int x :: st) σ Q) : xJ Γ Y d b0 pc lv st σ Q := fun p e s m args below meth c E H locs ls hP hS hl hb => lv_iload E.x E.b hd (xLv_at hl hg) (k p e s m args below meth c E H locs ls hP hS hl hb)
theorem xJ.lload_n {n : Fin 4} {x : Int64} (hd : decode Y.2.1 pc = .ok (.lload_n n, 1)) (hg : xg lv n = some (.long x)) (k : xJ Γ Y d b0 (pc + 1) lv (.long x :: st) σ Q) : xJ Γ Y d b0 pc lv st σ Q := fun p e s m args below meth c E H locs ls hP hS hl hb => lv_lload_n E.x E.b hd rfl (xLv_at hl hg) (k p e s m args below meth c E H locs ls hP hS hl hb)
theorem xJ.lload {n : Nat} {x : Int64} (hd : decode Y.2.1 pc = .ok (.lload n, 2)) (hg : xg lv n = some (.long x)) (k : xJ Γ Y d b0 (pc + 2) lv (.long x :: st) σ Q) : xJ Γ Y d b0 pc lv st σ Q := fun p e s m args below meth c E H locs ls hP hS hl hb => lv_lload E.x E.b hd (xLv_at hl hg) (k p e s m args below meth c E H locs ls hP hS hl hb)
theorem xJ.aload_n {n : Fin 4} {x : Nat} (hd : decode Y.2.1 pc = .ok (.aload_n n, 1)) (hg : xg lv n = some (.ref x)) (k : xJ Γ Y d b0 (pc + 1) lv (.ref x :: st) σ Q) : xJ Γ Y d b0 pc lv st σ Q := fun p e s m args below meth c E H locs ls hP hS hl hb => lv_aload_n E.x E.b hd rfl (xLv_at hl hg) (k p e s m args below meth c E H locs ls hP hS hl hb)
theorem xJ.aload {n : Nat} {x : Nat} (hd : decode Y.2.1 pc = .ok (.aload n, 2)) (hg : xg lv n = some (.ref x)) (k : xJ Γ Y d b0 (pc + 2) lv (.ref x :: st) σ Q) : xJ Γ Y d b0 pc lv st σ Q := fun p e s m args below meth c E H locs ls hP hS hl hb => lv_aload E.x E.b hd (xLv_at hl hg) (k p e s m args below meth c E H locs ls hP hS hl hb)
theorem xJ.istore_n {n : Fin 4} {x : Int32} (hd : decode Y.2.1 pc = .ok (.istore_n n, 1)) (hn : (n : Nat) < Y.2.2.1) (k : xJ Γ Y d b0 (pc + 1) (xst lv n (.int x)) st σ Q) : xJ Γ Y d b0 pc lv (.int x :: st) σ Q := fun p e s m args below meth c E H locs ls hP hS hl hb => lv_istore_n E.x E.b hd rfl hl hn (xLv_st lv n (.int x)) (fun ls hl => k p e s m args below meth c E H locs ls hP hS hl hb)
theorem xJ.istore {n : Nat} {x : Int32} (hd : decode Y.2.1 pc = .ok (.istore n, 2)) (hn : n < Y.2.2.1) (k : xJ Γ Y d b0 (pc + 2) (xst lv n (.int x)) st σ Q) : xJ Γ Y d b0 pc lv (.int x :: st) σ Q := fun p e s m args below meth c E H locs ls hP hS hl hb => lv_istore E.x E.b hd hl hn (xLv_st lv n (.int x)) (fun ls hl => k p e s m args below meth c E H locs ls hP hS hl hb)
theorem xJ.lstore_n {n : Fin 4} {x : Int64} (hd : decode Y.2.1 pc = .ok (.lstore_n n, 1)) (hn : (n : Nat) + 1 < Y.2.2.1) (k : xJ Γ Y d b0 (pc + 1) (xst2 lv n (.long x)) st σ Q) : xJ Γ Y d b0 pc lv (.long x :: st) σ Q := fun p e s m args below meth c E H locs ls hP hS hl hb => lv_lstore_n E.x E.b hd rfl hl hn (xLv_st2 lv n (.long x)) (fun ls hl => k p e s m args below meth c E H locs ls hP hS hl hb)
theorem xJ.lstore {n : Nat} {x : Int64} (hd : decode Y.2.1 pc = .ok (.lstore n, 2)) (hn : n + 1 < Y.2.2.1) (k : xJ Γ Y d b0 (pc + 2) (xst2 lv n (.long x)) st σ Q) : xJ Γ Y d b0 pc lv (.long x :: st) σ Q := fun p e s m args below meth c E H locs ls hP hS hl hb => lv_lstore E.x E.b hd hl hn (xLv_st2 lv n (.long x)) (fun ls hl => k p e s m args below meth c E H locs ls hP hS hl hb)
theorem xJ.astore_n {n : Fin 4} {x : Nat} (hd : decode Y.2.1 pc = .ok (.astore_n n, 1)) (hn : (n : Nat) < Y.2.2.1) (k : xJ Γ Y d b0 (pc + 1) (xst lv n (.ref x)) st σ Q) : xJ Γ Y d b0 pc lv (.ref x :: st) σ Q := fun p e s m args below meth c E H locs ls hP hS hl hb => lv_astore_n E.x E.b hd rfl hl hn (xLv_st lv n (.ref x)) (fun ls hl => k p e s m args below meth c E H locs ls hP hS hl hb)
theorem xJ.astore {n : Nat} {x : Nat} (hd : decode Y.2.1 pc = .ok (.astore n, 2)) (hn : n < Y.2.2.1) (k : xJ Γ Y d b0 (pc + 2) (xst lv n (.ref x)) st σ Q) : xJ Γ Y d b0 pc lv (.ref x :: st) σ Q := fun p e s m args below meth c E H locs ls hP hS hl hb => lv_astore E.x E.b hd hl hn (xLv_st lv n (.ref x)) (fun ls hl => k p e s m args below meth c E H locs ls hP hS hl hb)
theorem xJ.iinc {n : Nat} {z : Int} {x v : Int32} (hd : decode Y.2.1 pc = .ok (.iinc n z, 3)) (hg : xg lv n = some (.int x)) (hv : x + Int32.ofInt z = v) (hn : n < Y.2.2.1) (k : xJ Γ Y d b0 (pc + 3) (xst lv n (.int v)) st σ Q) : xJ Γ Y d b0 pc lv st σ Q := fun p e s m args below meth c E H locs ls hP hS hl hb => by
  obtain ⟨j, hj⟩ := List.getElem?_of_mem (show (n, Value.int x) ∈ xLv Γ lv from List.mem_map.mpr ⟨(n, .int x), xg_mem hg, rfl⟩)
  exact lv_iinc E.x E.b hd hl hj hv hn (xLv_st lv n (.int v)) (fun ls hl => k p e s m args below meth c E H locs ls hP hS hl hb)
theorem xJ.lcmp {x y : Int64} (hd : decode Y.2.1 pc = .ok (.lcmp, 1)) (k : xJ Γ Y d b0 (pc + 1) lv (.int (lg_cmp x y) :: st) σ Q) : xJ Γ Y d b0 pc lv (.long y :: .long x :: st) σ Q := fun p e s m args below meth c E H locs ls hP hS hl hb => W.lcmp E.x E.b hd (k p e s m args below meth c E H locs ls hP hS hl hb)
/-! constants of the pool -/
theorem xJ.ldc {idx : Nat} {v : Int32} (hd : decode Y.2.1 pc = .ok (.ldc idx, 2)) (hw : Cond.constant Y.1.cls idx v ∈ lw_gd) (k : xJ Γ Y d b0 (pc + 2) lv (.int v :: st) σ Q) : xJ Γ Y d b0 pc lv st σ Q := fun p e s m args below meth c E H locs ls hP hS hl hb => lv_ldc E.x E.b E.own (E.ts _ hw) hd (k p e s m args below meth c E H locs ls hP hS hl hb)
theorem xJ.ldc2 {idx : Nat} {v : Int64} (hd : decode Y.2.1 pc = .ok (.ldc2_w idx, 3)) (hw : Cond.constantLong Y.1.cls idx v ∈ lw_gd) (k : xJ Γ Y d b0 (pc + 3) lv (.long v :: st) σ Q) : xJ Γ Y d b0 pc lv st σ Q := fun p e s m args below meth c E H locs ls hP hS hl hb => lv_ldc2 E.x E.b E.own (E.ts _ hw) hd (k p e s m args below meth c E H locs ls hP hS hl hb)
theorem xJ.ldcw {idx : Nat} {v : Int32} (hd : decode Y.2.1 pc = .ok (.ldc_w idx, 3)) (hw : Cond.constant Y.1.cls idx v ∈ lw_gd) (k : xJ Γ Y d b0 (pc + 3) lv (.int v :: st) σ Q) : xJ Γ Y d b0 pc lv st σ Q := fun p e s m args below meth c E H locs ls hP hS hl hb => lv_ldcw E.x E.b E.own (E.ts _ hw) hd (k p e s m args below meth c E H locs ls hP hS hl hb)
theorem xJ.iconst {n : Int} {v : Int32} (hdg : decode Y.2.1 pc = .ok (.iconst n, 1)) (hv : Int32.ofInt n = v) (k : xJ Γ Y d b0 (pc + 1) lv (.int v :: st) σ Q) : xJ Γ Y d b0 pc lv (st) σ Q := fun p e s m args below meth c E H locs ls hP hS hl hb => lv_iconst E.x E.b hdg hv (k p e s m args below meth c E H locs ls hP hS hl hb)
theorem xJ.bipush {n : Int} {v : Int32} (hdg : decode Y.2.1 pc = .ok (.bipush n, 2)) (hv : (Int8.ofInt n).toInt32 = v) (k : xJ Γ Y d b0 (pc + 2) lv (.int v :: st) σ Q) : xJ Γ Y d b0 pc lv (st) σ Q := fun p e s m args below meth c E H locs ls hP hS hl hb => lv_bipush E.x E.b hdg hv (k p e s m args below meth c E H locs ls hP hS hl hb)
theorem xJ.sipush {n : Int} {v : Int32} (hdg : decode Y.2.1 pc = .ok (.sipush n, 3)) (hv : (Int16.ofInt n).toInt32 = v) (k : xJ Γ Y d b0 (pc + 3) lv (.int v :: st) σ Q) : xJ Γ Y d b0 pc lv (st) σ Q := fun p e s m args below meth c E H locs ls hP hS hl hb => lv_sipush E.x E.b hdg hv (k p e s m args below meth c E H locs ls hP hS hl hb)
theorem xJ.lconst {n : Fin 2} {v : Int64} (hdg : decode Y.2.1 pc = .ok (.lconst n, 1)) (hv : Int64.ofNat (n : Nat) = v) (k : xJ Γ Y d b0 (pc + 1) lv (.long v :: st) σ Q) : xJ Γ Y d b0 pc lv (st) σ Q := fun p e s m args below meth c E H locs ls hP hS hl hb => lv_lconst E.x E.b hdg hv (k p e s m args below meth c E H locs ls hP hS hl hb)
theorem xJ.iadd {x y : Int32} (hdg : decode Y.2.1 pc = .ok (.iadd, 1)) (k : xJ Γ Y d b0 (pc + 1) lv (.int (x + y) :: st) σ Q) : xJ Γ Y d b0 pc lv (.int y :: .int x :: st) σ Q := fun p e s m args below meth c E H locs ls hP hS hl hb => lv_iadd E.x E.b hdg (k p e s m args below meth c E H locs ls hP hS hl hb)
theorem xJ.isub {x y : Int32} (hdg : decode Y.2.1 pc = .ok (.isub, 1)) (k : xJ Γ Y d b0 (pc + 1) lv (.int (x - y) :: st) σ Q) : xJ Γ Y d b0 pc lv (.int y :: .int x :: st) σ Q := fun p e s m args below meth c E H locs ls hP hS hl hb => lv_isub E.x E.b hdg (k p e s m args below meth c E H locs ls hP hS hl hb)
theorem xJ.imul {x y : Int32} (hdg : decode Y.2.1 pc = .ok (.imul, 1)) (k : xJ Γ Y d b0 (pc + 1) lv (.int (x * y) :: st) σ Q) : xJ Γ Y d b0 pc lv (.int y :: .int x :: st) σ Q := fun p e s m args below meth c E H locs ls hP hS hl hb => lv_imul E.x E.b hdg (k p e s m args below meth c E H locs ls hP hS hl hb)
theorem xJ.iand {x y : Int32} (hdg : decode Y.2.1 pc = .ok (.iand, 1)) (k : xJ Γ Y d b0 (pc + 1) lv (.int (x &&& y) :: st) σ Q) : xJ Γ Y d b0 pc lv (.int y :: .int x :: st) σ Q := fun p e s m args below meth c E H locs ls hP hS hl hb => lv_iand E.x E.b hdg (k p e s m args below meth c E H locs ls hP hS hl hb)
theorem xJ.ior {x y : Int32} (hdg : decode Y.2.1 pc = .ok (.ior, 1)) (k : xJ Γ Y d b0 (pc + 1) lv (.int (x ||| y) :: st) σ Q) : xJ Γ Y d b0 pc lv (.int y :: .int x :: st) σ Q := fun p e s m args below meth c E H locs ls hP hS hl hb => lv_ior E.x E.b hdg (k p e s m args below meth c E H locs ls hP hS hl hb)
theorem xJ.ixor {x y : Int32} (hdg : decode Y.2.1 pc = .ok (.ixor, 1)) (k : xJ Γ Y d b0 (pc + 1) lv (.int (x ^^^ y) :: st) σ Q) : xJ Γ Y d b0 pc lv (.int y :: .int x :: st) σ Q := fun p e s m args below meth c E H locs ls hP hS hl hb => lv_ixor E.x E.b hdg (k p e s m args below meth c E H locs ls hP hS hl hb)
theorem xJ.idiv {x y : Int32} (hdg : decode Y.2.1 pc = .ok (.idiv, 1)) (hne : ¬ y = 0) (k : xJ Γ Y d b0 (pc + 1) lv (.int (x / y) :: st) σ Q) : xJ Γ Y d b0 pc lv (.int y :: .int x :: st) σ Q := fun p e s m args below meth c E H locs ls hP hS hl hb => lv_idiv E.x E.b hdg hne (k p e s m args below meth c E H locs ls hP hS hl hb)
theorem xJ.irem {x y : Int32} (hdg : decode Y.2.1 pc = .ok (.irem, 1)) (hne : ¬ y = 0) (k : xJ Γ Y d b0 (pc + 1) lv (.int (x - x / y * y) :: st) σ Q) : xJ Γ Y d b0 pc lv (.int y :: .int x :: st) σ Q := fun p e s m args below meth c E H locs ls hP hS hl hb => lv_irem E.x E.b hdg hne (k p e s m args below meth c E H locs ls hP hS hl hb)
theorem xJ.ineg {x : Int32} (hdg : decode Y.2.1 pc = .ok (.ineg, 1)) (k : xJ Γ Y d b0 (pc + 1) lv (.int (-x) :: st) σ Q) : xJ Γ Y d b0 pc lv (.int x :: st) σ Q := fun p e s m args below meth c E H locs ls hP hS hl hb => lv_ineg E.x E.b hdg (k p e s m args below meth c E H locs ls hP hS hl hb)
theorem xJ.ladd {x y : Int64} (hdg : decode Y.2.1 pc = .ok (.ladd, 1)) (k : xJ Γ Y d b0 (pc + 1) lv (.long (x + y) :: st) σ Q) : xJ Γ Y d b0 pc lv (.long y :: .long x :: st) σ Q := fun p e s m args below meth c E H locs ls hP hS hl hb => lv_ladd E.x E.b hdg (k p e s m args below meth c E H locs ls hP hS hl hb)
theorem xJ.lsub {x y : Int64} (hdg : decode Y.2.1 pc = .ok (.lsub, 1)) (k : xJ Γ Y d b0 (pc + 1) lv (.long (x - y) :: st) σ Q) : xJ Γ Y d b0 pc lv (.long y :: .long x :: st) σ Q := fun p e s m args below meth c E H locs ls hP hS hl hb => lv_lsub E.x E.b hdg (k p e s m args below meth c E H locs ls hP hS hl hb)
theorem xJ.lmul {x y : Int64} (hdg : decode Y.2.1 pc = .ok (.lmul, 1)) (k : xJ Γ Y d b0 (pc + 1) lv (.long (x * y) :: st) σ Q) : xJ Γ Y d b0 pc lv (.long y :: .long x :: st) σ Q := fun p e s m args below meth c E H locs ls hP hS hl hb => lv_lmul E.x E.b hdg (k p e s m args below meth c E H locs ls hP hS hl hb)
theorem xJ.land {x y : Int64} (hdg : decode Y.2.1 pc = .ok (.land, 1)) (k : xJ Γ Y d b0 (pc + 1) lv (.long (x &&& y) :: st) σ Q) : xJ Γ Y d b0 pc lv (.long y :: .long x :: st) σ Q := fun p e s m args below meth c E H locs ls hP hS hl hb => lv_land E.x E.b hdg (k p e s m args below meth c E H locs ls hP hS hl hb)
theorem xJ.lor {x y : Int64} (hdg : decode Y.2.1 pc = .ok (.lor, 1)) (k : xJ Γ Y d b0 (pc + 1) lv (.long (x ||| y) :: st) σ Q) : xJ Γ Y d b0 pc lv (.long y :: .long x :: st) σ Q := fun p e s m args below meth c E H locs ls hP hS hl hb => lv_lor E.x E.b hdg (k p e s m args below meth c E H locs ls hP hS hl hb)
theorem xJ.lxor {x y : Int64} (hdg : decode Y.2.1 pc = .ok (.lxor, 1)) (k : xJ Γ Y d b0 (pc + 1) lv (.long (x ^^^ y) :: st) σ Q) : xJ Γ Y d b0 pc lv (.long y :: .long x :: st) σ Q := fun p e s m args below meth c E H locs ls hP hS hl hb => lv_lxor E.x E.b hdg (k p e s m args below meth c E H locs ls hP hS hl hb)
theorem xJ.ldiv {x y : Int64} (hdg : decode Y.2.1 pc = .ok (.ldiv, 1)) (hne : ¬ y = 0) (k : xJ Γ Y d b0 (pc + 1) lv (.long (x / y) :: st) σ Q) : xJ Γ Y d b0 pc lv (.long y :: .long x :: st) σ Q := fun p e s m args below meth c E H locs ls hP hS hl hb => lv_ldiv E.x E.b hdg hne (k p e s m args below meth c E H locs ls hP hS hl hb)
theorem xJ.lrem {x y : Int64} (hdg : decode Y.2.1 pc = .ok (.lrem, 1)) (hne : ¬ y = 0) (k : xJ Γ Y d b0 (pc + 1) lv (.long (x - x / y * y) :: st) σ Q) : xJ Γ Y d b0 pc lv (.long y :: .long x :: st) σ Q := fun p e s m args below meth c E H locs ls hP hS hl hb => lv_lrem E.x E.b hdg hne (k p e s m args below meth c E H locs ls hP hS hl hb)
theorem xJ.lneg {x : Int64} (hdg : decode Y.2.1 pc = .ok (.lneg, 1)) (k : xJ Γ Y d b0 (pc + 1) lv (.long (-x) :: st) σ Q) : xJ Γ Y d b0 pc lv (.long x :: st) σ Q := fun p e s m args below meth c E H locs ls hP hS hl hb => lv_lneg E.x E.b hdg (k p e s m args below meth c E H locs ls hP hS hl hb)
theorem xJ.ishl {x y : Int32} (hdg : decode Y.2.1 pc = .ok (.ishl, 1)) (k : xJ Γ Y d b0 (pc + 1) lv (.int (x <<< (y &&& 31)) :: st) σ Q) : xJ Γ Y d b0 pc lv (.int y :: .int x :: st) σ Q := fun p e s m args below meth c E H locs ls hP hS hl hb => lv_ishl E.x E.b hdg (k p e s m args below meth c E H locs ls hP hS hl hb)
theorem xJ.ishr {x y : Int32} (hdg : decode Y.2.1 pc = .ok (.ishr, 1)) (k : xJ Γ Y d b0 (pc + 1) lv (.int (x >>> (y &&& 31)) :: st) σ Q) : xJ Γ Y d b0 pc lv (.int y :: .int x :: st) σ Q := fun p e s m args below meth c E H locs ls hP hS hl hb => lv_ishr E.x E.b hdg (k p e s m args below meth c E H locs ls hP hS hl hb)
theorem xJ.i2l {x : Int32} {v : Int64} (hdg : decode Y.2.1 pc = .ok (.i2l, 1)) (hv : x.toInt64 = v) (k : xJ Γ Y d b0 (pc + 1) lv (.long v :: st) σ Q) : xJ Γ Y d b0 pc lv (.int x :: st) σ Q := fun p e s m args below meth c E H locs ls hP hS hl hb => lv_i2l E.x E.b hdg hv (k p e s m args below meth c E H locs ls hP hS hl hb)
theorem xJ.l2i {x : Int64} {v : Int32} (hdg : decode Y.2.1 pc = .ok (.l2i, 1)) (hv : x.toInt32 = v) (k : xJ Γ Y d b0 (pc + 1) lv (.int v :: st) σ Q) : xJ Γ Y d b0 pc lv (.long x :: st) σ Q := fun p e s m args below meth c E H locs ls hP hS hl hb => lv_l2i E.x E.b hdg hv (k p e s m args below meth c E H locs ls hP hS hl hb)
theorem xJ.i2b {x : Int32} {v : Int32} (hdg : decode Y.2.1 pc = .ok (.i2b, 1)) (hv : x.toInt8.toInt32 = v) (k : xJ Γ Y d b0 (pc + 1) lv (.int v :: st) σ Q) : xJ Γ Y d b0 pc lv (.int x :: st) σ Q := fun p e s m args below meth c E H locs ls hP hS hl hb => lv_i2b E.x E.b hdg hv (k p e s m args below meth c E H locs ls hP hS hl hb)
theorem xJ.i2s {x : Int32} {v : Int32} (hdg : decode Y.2.1 pc = .ok (.i2s, 1)) (hv : x.toInt16.toInt32 = v) (k : xJ Γ Y d b0 (pc + 1) lv (.int v :: st) σ Q) : xJ Γ Y d b0 pc lv (.int x :: st) σ Q := fun p e s m args below meth c E H locs ls hP hS hl hb => lv_i2s E.x E.b hdg hv (k p e s m args below meth c E H locs ls hP hS hl hb)
theorem xJ.i2c {x : Int32} {v : Int32} (hdg : decode Y.2.1 pc = .ok (.i2c, 1)) (hv : (x.toUInt32 % 65536).toInt32 = v) (k : xJ Γ Y d b0 (pc + 1) lv (.int v :: st) σ Q) : xJ Γ Y d b0 pc lv (.int x :: st) σ Q := fun p e s m args below meth c E H locs ls hP hS hl hb => lv_i2c E.x E.b hdg hv (k p e s m args below meth c E H locs ls hP hS hl hb)
theorem xJ.iushr {x y v : Int32} (hdg : decode Y.2.1 pc = .ok (.iushr, 1)) (hv : (x.toUInt32 >>> (y.toUInt32 &&& Int32.toUInt32 31)).toInt32 = v) (k : xJ Γ Y d b0 (pc + 1) lv (.int v :: st) σ Q) : xJ Γ Y d b0 pc lv (.int y :: .int x :: st) σ Q := fun p e s m args below meth c E H locs ls hP hS hl hb => lv_iushr E.x E.b hdg hv (k p e s m args below meth c E H locs ls hP hS hl hb)
theorem xJ.lushr {x v : Int64} {y : Int32} (hdg : decode Y.2.1 pc = .ok (.lushr, 1)) (hv : (x.toUInt64 >>> (y.toInt64.toUInt64 &&& Int64.toUInt64 63)).toInt64 = v) (k : xJ Γ Y d b0 (pc + 1) lv (.long v :: st) σ Q) : xJ Γ Y d b0 pc lv (.int y :: .long x :: st) σ Q := fun p e s m args below meth c E H locs ls hP hS hl hb => lv_lushr E.x E.b hdg hv (k p e s m args below meth c E H locs ls hP hS hl hb)
theorem xJ.lshl {x v : Int64} {y : Int32} (hdg : decode Y.2.1 pc = .ok (.lshl, 1)) (hv : x <<< (y.toInt64 &&& 63) = v) (k : xJ Γ Y d b0 (pc + 1) lv (.long v :: st) σ Q) : xJ Γ Y d b0 pc lv (.int y :: .long x :: st) σ Q := fun p e s m args below meth c E H locs ls hP hS hl hb => lv_lshl E.x E.b hdg hv (k p e s m args below meth c E H locs ls hP hS hl hb)
theorem xJ.lshr {x v : Int64} {y : Int32} (hdg : decode Y.2.1 pc = .ok (.lshr, 1)) (hv : x >>> (y.toInt64 &&& 63) = v) (k : xJ Γ Y d b0 (pc + 1) lv (.long v :: st) σ Q) : xJ Γ Y d b0 pc lv (.int y :: .long x :: st) σ Q := fun p e s m args below meth c E H locs ls hP hS hl hb => lv_lshr E.x E.b hdg hv (k p e s m args below meth c E H locs ls hP hS hl hb)
theorem xJ.dup {va : Value} (hdg : decode Y.2.1 pc = .ok (.dup, 1)) (hva : va.category = 1) (k : xJ Γ Y d b0 (pc + 1) lv (va :: va :: st) σ Q) : xJ Γ Y d b0 pc lv (va :: st) σ Q := fun p e s m args below meth c E H locs ls hP hS hl hb => lv_dup E.x E.b hdg ((xV_cat Γ _).trans hva) (k p e s m args below meth c E H locs ls hP hS hl hb)
theorem xJ.pop {va : Value} (hdg : decode Y.2.1 pc = .ok (.pop, 1)) (hva : va.category = 1) (k : xJ Γ Y d b0 (pc + 1) lv (st) σ Q) : xJ Γ Y d b0 pc lv (va :: st) σ Q := fun p e s m args below meth c E H locs ls hP hS hl hb => lv_pop E.x E.b hdg ((xV_cat Γ _).trans hva) (k p e s m args below meth c E H locs ls hP hS hl hb)
theorem xJ.dup_x1 {va vb : Value} (hdg : decode Y.2.1 pc = .ok (.dup_x1, 1)) (hva : va.category = 1) (hvb : vb.category = 1) (k : xJ Γ Y d b0 (pc + 1) lv (va :: vb :: va :: st) σ Q) : xJ Γ Y d b0 pc lv (va :: vb :: st) σ Q := fun p e s m args below meth c E H locs ls hP hS hl hb => lv_dup_x1 E.x E.b hdg ((xV_cat Γ _).trans hva) ((xV_cat Γ _).trans hvb) (k p e s m args below meth c E H locs ls hP hS hl hb)
theorem xJ.dup_x2 {va vb vd : Value} (hdg : decode Y.2.1 pc = .ok (.dup_x2, 1)) (hva : va.category = 1) (hvb : vb.category = 1) (hvd : vd.category = 1) (k : xJ Γ Y d b0 (pc + 1) lv (va :: vb :: vd :: va :: st) σ Q) : xJ Γ Y d b0 pc lv (va :: vb :: vd :: st) σ Q := fun p e s m args below meth c E H locs ls hP hS hl hb => lv_dup_x2 E.x E.b hdg ((xV_cat Γ _).trans hva) ((xV_cat Γ _).trans hvb) ((xV_cat Γ _).trans hvd) (k p e s m args below meth c E H locs ls hP hS hl hb)
theorem xJ.dup2_11 {va vb : Value} (hdg : decode Y.2.1 pc = .ok (.dup2, 1)) (hva : va.category = 1) (hvb : vb.category = 1) (k : xJ Γ Y d b0 (pc + 1) lv (va :: vb :: va :: vb :: st) σ Q) : xJ Γ Y d b0 pc lv (va :: vb :: st) σ Q := fun p e s m args below meth c E H locs ls hP hS hl hb => lv_dup2_11 E.x E.b hdg ((xV_cat Γ _).trans hva) ((xV_cat Γ _).trans hvb) (k p e s m args below meth c E H locs ls hP hS hl hb)
theorem xJ.dup2_2 {va : Value} (hdg : decode Y.2.1 pc = .ok (.dup2, 1)) (hva : va.category = 2) (k : xJ Γ Y d b0 (pc + 1) lv (va :: va :: st) σ Q) : xJ Γ Y d b0 pc lv (va :: st) σ Q := fun p e s m args below meth c E H locs ls hP hS hl hb => lv_dup2_2 E.x E.b hdg ((xV_cat Γ _).trans hva) (k p e s m args below meth c E H locs ls hP hS hl hb)
theorem xJ.pop2_2 {va : Value} (hdg : decode Y.2.1 pc = .ok (.pop2, 1)) (hva : va.category = 2) (k : xJ Γ Y d b0 (pc + 1) lv (st) σ Q) : xJ Γ Y d b0 pc lv (va :: st) σ Q := fun p e s m args below meth c E H locs ls hP hS hl hb => lv_pop2_2 E.x E.b hdg ((xV_cat Γ _).trans hva) (k p e s m args below meth c E H locs ls hP hS hl hb)
theorem xJ.pop2_11 {va vb : Value} (hdg : decode Y.2.1 pc = .ok (.pop2, 1)) (hva : va.category = 1) (hvb : vb.category = 1) (k : xJ Γ Y d b0 (pc + 1) lv (st) σ Q) : xJ Γ Y d b0 pc lv (va :: vb :: st) σ Q := fun p e s m args below meth c E H locs ls hP hS hl hb => lv_pop2_11 E.x E.b hdg ((xV_cat Γ _).trans hva) ((xV_cat Γ _).trans hvb) (k p e s m args below meth c E H locs ls hP hS hl hb)
theorem xJ.if_eq {x : Int32} {off : Int} {tgt : Nat} (hdg : decode Y.2.1 pc = .ok (.ifCond .eq off, 3)) (ht : (pc : Int) + off = (tgt : Int)) (kt : x = 0 → xJ Γ Y d b0 tgt lv st σ Q) (kf : ¬ x = 0 → xJ Γ Y d b0 (pc + 3) lv st σ Q) : xJ Γ Y d b0 pc lv (.int x :: st) σ Q := fun p e s m args below meth c E H locs ls hP hS hl hb => lv_if_eq E.x E.b hdg ht (fun z => kt z p e s m args below meth c E H locs ls hP hS hl hb) (fun z => kf z p e s m args below meth c E H locs ls hP hS hl hb)
theorem xJ.if_ne {x : Int32} {off : Int} {tgt : Nat} (hdg : decode Y.2.1 pc = .ok (.ifCond .ne off, 3)) (ht : (pc : Int) + off = (tgt : Int)) (kt : ¬ x = 0 → xJ Γ Y d b0 tgt lv st σ Q) (kf : x = 0 → xJ Γ Y d b0 (pc + 3) lv st σ Q) : xJ Γ Y d b0 pc lv (.int x :: st) σ Q := fun p e s m args below meth c E H locs ls hP hS hl hb => lv_if_ne E.x E.b hdg ht (fun z => kt z p e s m args below meth c E H locs ls hP hS hl hb) (fun z => kf z p e s m args below meth c E H locs ls hP hS hl hb)
theorem xJ.if_lt {x : Int32} {off : Int} {tgt : Nat} (hdg : decode Y.2.1 pc = .ok (.ifCond .lt off, 3)) (ht : (pc : Int) + off = (tgt : Int)) (kt : x < 0 → xJ Γ Y d b0 tgt lv st σ Q) (kf : ¬ x < 0 → xJ Γ Y d b0 (pc + 3) lv st σ Q) : xJ Γ Y d b0 pc lv (.int x :: st) σ Q := fun p e s m args below meth c E H locs ls hP hS hl hb => lv_if_lt E.x E.b hdg ht (fun z => kt z p e s m args below meth c E H locs ls hP hS hl hb) (fun z => kf z p e s m args below meth c E H locs ls hP hS hl hb)
theorem xJ.if_ge {x : Int32} {off : Int} {tgt : Nat} (hdg : decode Y.2.1 pc = .ok (.ifCond .ge off, 3)) (ht : (pc : Int) + off = (tgt : Int)) (kt : 0 ≤ x → xJ Γ Y d b0 tgt lv st σ Q) (kf : ¬ 0 ≤ x → xJ Γ Y d b0 (pc + 3) lv st σ Q) : xJ Γ Y d b0 pc lv (.int x :: st) σ Q := fun p e s m args below meth c E H locs ls hP hS hl hb => lv_if_ge E.x E.b hdg ht (fun z => kt z p e s m args below meth c E H locs ls hP hS hl hb) (fun z => kf z p e s m args below meth c E H locs ls hP hS hl hb)
theorem xJ.if_gt {x : Int32} {off : Int} {tgt : Nat} (hdg : decode Y.2.1 pc = .ok (.ifCond .gt off, 3)) (ht : (pc : Int) + off = (tgt : Int)) (kt : 0 < x → xJ Γ Y d b0 tgt lv st σ Q) (kf : ¬ 0 < x → xJ Γ Y d b0 (pc + 3) lv st σ Q) : xJ Γ Y d b0 pc lv (.int x :: st) σ Q := fun p e s m args below meth c E H locs ls hP hS hl hb => lv_if_gt E.x E.b hdg ht (fun z => kt z p e s m args below meth c E H locs ls hP hS hl hb) (fun z => kf z p e s m args below meth c E H locs ls hP hS hl hb)
theorem xJ.if_le {x : Int32} {off : Int} {tgt : Nat} (hdg : decode Y.2.1 pc = .ok (.ifCond .le off, 3)) (ht : (pc : Int) + off = (tgt : Int)) (kt : x ≤ 0 → xJ Γ Y d b0 tgt lv st σ Q) (kf : ¬ x ≤ 0 → xJ Γ Y d b0 (pc + 3) lv st σ Q) : xJ Γ Y d b0 pc lv (.int x :: st) σ Q := fun p e s m args below meth c E H locs ls hP hS hl hb => lv_if_le E.x E.b hdg ht (fun z => kt z p e s m args below meth c E H locs ls hP hS hl hb) (fun z => kf z p e s m args below meth c E H locs ls hP hS hl hb)
theorem xJ.icmp_eq {x y : Int32} {off : Int} {tgt : Nat} (hdg : decode Y.2.1 pc = .ok (.if_icmp .eq off, 3)) (ht : (pc : Int) + off = (tgt : Int)) (kt : x = y → xJ Γ Y d b0 tgt lv st σ Q) (kf : ¬ x = y → xJ Γ Y d b0 (pc + 3) lv st σ Q) : xJ Γ Y d b0 pc lv (.int y :: .int x :: st) σ Q := fun p e s m args below meth c E H locs ls hP hS hl hb => lv_icmp_eq E.x E.b hdg ht (fun z => kt z p e s m args below meth c E H locs ls hP hS hl hb) (fun z => kf z p e s m args below meth c E H locs ls hP hS hl hb)
theorem xJ.icmp_ne {x y : Int32} {off : Int} {tgt : Nat} (hdg : decode Y.2.1 pc = .ok (.if_icmp .ne off, 3)) (ht : (pc : Int) + off = (tgt : Int)) (kt : ¬ x = y → xJ Γ Y d b0 tgt lv st σ Q) (kf : x = y → xJ Γ Y d b0 (pc + 3) lv st σ Q) : xJ Γ Y d b0 pc lv (.int y :: .int x :: st) σ Q := fun p e s m args below meth c E H locs ls hP hS hl hb => lv_icmp_ne E.x E.b hdg ht (fun z => kt z p e s m args below meth c E H locs ls hP hS hl hb) (fun z => kf z p e s m args below meth c E H locs ls hP hS hl hb)
theorem xJ.icmp_lt {x y : Int32} {off : Int} {tgt : Nat} (hdg : decode Y.2.1 pc = .ok (.if_icmp .lt off, 3)) (ht : (pc : Int) + off = (tgt : Int)) (kt : x < y → xJ Γ Y d b0 tgt lv st σ Q) (kf : ¬ x < y → xJ Γ Y d b0 (pc + 3) lv st σ Q) : xJ Γ Y d b0 pc lv (.int y :: .int x :: st) σ Q := fun p e s m args below meth c E H locs ls hP hS hl hb => lv_icmp_lt E.x E.b hdg ht (fun z => kt z p e s m args below meth c E H locs ls hP hS hl hb) (fun z => kf z p e s m args below meth c E H locs ls hP hS hl hb)
theorem xJ.icmp_ge {x y : Int32} {off : Int} {tgt : Nat} (hdg : decode Y.2.1 pc = .ok (.if_icmp .ge off, 3)) (ht : (pc : Int) + off = (tgt : Int)) (kt : y ≤ x → xJ Γ Y d b0 tgt lv st σ Q) (kf : ¬ y ≤ x → xJ Γ Y d b0 (pc + 3) lv st σ Q) : xJ Γ Y d b0 pc lv (.int y :: .int x :: st) σ Q := fun p e s m args below meth c E H locs ls hP hS hl hb => lv_icmp_ge E.x E.b hdg ht (fun z => kt z p e s m args below meth c E H locs ls hP hS hl hb) (fun z => kf z p e s m args below meth c E H locs ls hP hS hl hb)
theorem xJ.icmp_gt {x y : Int32} {off : Int} {tgt : Nat} (hdg : decode Y.2.1 pc = .ok (.if_icmp .gt off, 3)) (ht : (pc : Int) + off = (tgt : Int)) (kt : y < x → xJ Γ Y d b0 tgt lv st σ Q) (kf : ¬ y < x → xJ Γ Y d b0 (pc + 3) lv st σ Q) : xJ Γ Y d b0 pc lv (.int y :: .int x :: st) σ Q := fun p e s m args below meth c E H locs ls hP hS hl hb => lv_icmp_gt E.x E.b hdg ht (fun z => kt z p e s m args below meth c E H locs ls hP hS hl hb) (fun z => kf z p e s m args below meth c E H locs ls hP hS hl hb)
theorem xJ.icmp_le {x y : Int32} {off : Int} {tgt : Nat} (hdg : decode Y.2.1 pc = .ok (.if_icmp .le off, 3)) (ht : (pc : Int) + off = (tgt : Int)) (kt : x ≤ y → xJ Γ Y d b0 tgt lv st σ Q) (kf : ¬ x ≤ y → xJ Γ Y d b0 (pc + 3) lv st σ Q) : xJ Γ Y d b0 pc lv (.int y :: .int x :: st) σ Q := fun p e s m args below meth c E H locs ls hP hS hl hb => lv_icmp_le E.x E.b hdg ht (fun z => kt z p e s m args below meth c E H locs ls hP hS hl hb) (fun z => kf z p e s m args below meth c E H locs ls hP hS hl hb)
theorem xJ.goto {off : Int} {tgt : Nat} (hdg : decode Y.2.1 pc = .ok (.goto off, 3)) (ht : (pc : Int) + off = (tgt : Int)) (k : xJ Γ Y d b0 tgt lv st σ Q) : xJ Γ Y d b0 pc lv st σ Q := fun p e s m args below meth c E H locs ls hP hS hl hb => lv_goto E.x E.b hdg ht (k p e s m args below meth c E H locs ls hP hS hl hb)
theorem xJ.lookup {dflt : Int} {ps : Array (Int × Int)} {len : Nat} {x : Int32} {off : Int} {tgt : Nat} (hdg : decode Y.2.1 pc = .ok (.lookupswitch dflt ps, len)) (hp : (ps.toList.zip (ps.toList.drop 1)).all (fun (a, next) => a.1 < next.1) = true) (ho : Op.lookupswitch.offset ps.toList dflt x.toInt = off) (ht : (pc : Int) + off = (tgt : Int)) (k : xJ Γ Y d b0 tgt lv st σ Q) : xJ Γ Y d b0 pc lv (.int x :: st) σ Q := fun p e s m args below meth c E H locs ls hP hS hl hb => lv_lookup E.x E.b hdg hp ho ht (k p e s m args below meth c E H locs ls hP hS hl hb)
theorem xJ.tableOut {dflt lo hi : Int} {offs : Array Int} {len : Nat} {x : Int32} {tgt : Nat} (hdg : decode Y.2.1 pc = .ok (.tableswitch dflt lo hi offs, len)) (h : x.toInt < lo ∨ hi < x.toInt) (ht : (pc : Int) + dflt = (tgt : Int)) (k : xJ Γ Y d b0 tgt lv st σ Q) : xJ Γ Y d b0 pc lv (.int x :: st) σ Q := fun p e s m args below meth c E H locs ls hP hS hl hb => lv_tableOut E.x E.b hdg h ht (k p e s m args below meth c E H locs ls hP hS hl hb)
theorem xJ.tableIn {dflt lo hi : Int} {offs : Array Int} {len : Nat} {x : Int32} {off : Int} {tgt : Nat} (hdg : decode Y.2.1 pc = .ok (.tableswitch dflt lo hi offs, len)) (h1 : ¬ x.toInt < lo) (h2 : ¬ hi < x.toInt) (ho : offs[(x.toInt - lo).toNat]? = some off) (ht : (pc : Int) + off = (tgt : Int)) (k : xJ Γ Y d b0 tgt lv st σ Q) : xJ Γ Y d b0 pc lv (.int x :: st) σ Q := fun p e s m args below meth c E H locs ls hP hS hl hb => lv_tableIn E.x E.b hdg h1 h2 ho ht (k p e s m args below meth c E H locs ls hP hS hl hb)
theorem xJ.ifnonnull {x : Nat} {off : Int} {tgt : Nat} (hdg : decode Y.2.1 pc = .ok (.ifnonnull off, 3)) (ht : (pc : Int) + off = (tgt : Int)) (k : xJ Γ Y d b0 tgt lv st σ Q) : xJ Γ Y d b0 pc lv (.ref x :: st) σ Q := fun p e s m args below meth c E H locs ls hP hS hl hb => lv_ifnonnull E.x E.b hdg ht (k p e s m args below meth c E H locs ls hP hS hl hb)
theorem xJ.ifnull {x : Nat} {off : Int} (hdg : decode Y.2.1 pc = .ok (.ifnull off, 3)) (k : xJ Γ Y d b0 (pc + 3) lv st σ Q) : xJ Γ Y d b0 pc lv (.ref x :: st) σ Q := fun p e s m args below meth c E H locs ls hP hS hl hb => lv_ifnull E.x E.b hdg (k p e s m args below meth c E H locs ls hP hS hl hb)
end JJ
/-! returns -/
theorem xz_n {v : Int32} (h : v = 0 ∨ v = 1) : narrow .boolean (.int v) = .int v := by
  rcases h with rfl | rfl <;> decide
theorem xz_f {v : Int32} (h : v = 0 ∨ v = 1) : fits .boolean (.int v) = true := by
  rcases h with rfl | rfl <;> decide
section RET
variable {Γ : xG} {Y : xMth} {d b0 pc : Nat} {lv : List (Nat × Value)} {σ : xS} {Q : xO → xS → Prop}
theorem xW_ret {p : Program} {e : Env} {s : State} {m : MethodId} {args : Array Value} {below : List Frame} {meth : Method} {c : Code} {H : Heap} {locs : List Loc} {g : JFrame} {v : Option Value}
    (h : W p (xLa Γ) e (xR d b0) s m args below meth c H locs ((b0 - xb σ) * xec) ((b0 - xb σ) * xes) (MQ below (fun _ _ o t => o = .returned (v.map (xV Γ)) ∧ t.heap = H) args s ((b0 - xb σ) * xec) ((b0 - xb σ) * xes) (xA Γ)) g)
    (hq : Q (.inl v) σ) (hP : va_P (xD Γ) xcl (xWd Γ σ) H) (hS : va_S (xA Γ) s.heap H locs) (hb : xb σ ≤ b0) :
    W p (xLa Γ) e (xR d b0) s m args below meth c H locs ((b0 - xb σ) * xec) ((b0 - xb σ) * xes) (xZ Γ Q s below b0) g := by
  intro T hT X
  obtain ⟨t, a, o, h1, h2, ⟨h3, h4⟩, L, h5, h6⟩ := h T hT X
  exact ⟨t, a, o, h1, h2, .inl v, σ, h3, hq, by rw [h4]; exact hP, hS.F h4, hb, h5.2.1, L, h5.2.2, h6⟩
theorem xJ.ireturn {v : Int32} (hd : decode Y.2.1 pc = .ok (.ireturn, 1)) (hr : Y.2.2.2.1 = some .int) (hq : Q (.inl (some (.int v))) σ) : xJ Γ Y d b0 pc lv [.int v] σ Q :=
  fun p e s m args below meth c E H locs ls hP hS hl hb => xW_ret (W.iret (v := v) E.x E.b (E.r.trans hr) (fun t ht _ => ⟨rfl, ht⟩) hS.2.2 hd E.lk) hq hP hS hb
theorem xJ.zreturn {v : Int32} (hd : decode Y.2.1 pc = .ok (.ireturn, 1)) (hr : Y.2.2.2.1 = some .boolean) (hn : v = 0 ∨ v = 1) (hq : Q (.inl (some (.int v))) σ) : xJ Γ Y d b0 pc lv [.int v] σ Q :=
  fun p e s m args below meth c E H locs ls hP hS hl hb => xW_ret (W.zret (v := v) E.x E.b (E.r.trans hr) (xz_n hn) (fun t ht _ => ⟨rfl, ht⟩) hS.2.2 hd E.lk) hq hP hS hb
theorem xJ.lreturn {v : Int64} (hd : decode Y.2.1 pc = .ok (.lreturn, 1)) (hr : Y.2.2.2.1 = some .long) (hq : Q (.inl (some (.long v))) σ) : xJ Γ Y d b0 pc lv [.long v] σ Q :=
  fun p e s m args below meth c E H locs ls hP hS hl hb => xW_ret (W.lret (v := v) E.x E.b (E.r.trans hr) (fun t ht _ => ⟨rfl, ht⟩) hS.2.2 hd E.lk) hq hP hS hb
theorem xJ.return_ (hd : decode Y.2.1 pc = .ok (.return_, 1)) (hr : Y.2.2.2.1 = none) (hq : Q (.inl none) σ) : xJ Γ Y d b0 pc lv [] σ Q :=
  fun p e s m args below meth c E H locs ls hP hS hl hb => xW_ret (v := none) (W.vret E.x E.b (E.r.trans hr) (fun t ht _ => ⟨rfl, ht⟩) hS.2.2 hd E.lk) hq hP hS hb
end RET
/-! fields -/
def xFl (own : String) (idx ci j : Nat) : Prop := ∃ (C : String) (T : u_T) (N : Nat), xcl[ci]? = some (C, T, N) ∧ j < N ∧ xN ci = N ∧ Cond.fieldLink own idx (T j).1 (T j).2.1 (T j).2.2.1 ∈ lw_gd
/-- what a slot holds, as ours -/
def xfa (σ : xS) (k ci : Nat) (rs : List (Option Nat)) (j : Nat) : Option Value := match xty ci j with
  | .long => some (.long (xl σ k j))
  | .object _ => (rs.getD j none).map .ref
  | .array _ => (rs.getD j none).map .ref
  | _ => some (.int (xi σ k j))
theorem xfa_v {Γ : xG} {σ : xS} {k ci j : Nat} {rs : List (Option Nat)} {v : Value} (h : xfa σ k ci rs j = some v) : xfv Γ σ k ci rs j = xV Γ v := by
  unfold xfa at h
  unfold xfv
  cases hty : xty ci j <;> simp only [hty] at h ⊢
  all_goals first
    | (cases h; rfl)
    | (cases hr : rs.getD j none with
       | none => rw [hr] at h; cases h
       | some r => rw [hr] at h; cases h; rfl)
theorem xE_obj (Γ : xG) (σ : xS) {k ci : Nat} {rs : List (Option Nat)} (hk : (xSp Γ)[k]? = some (.inl (ci, rs))) : xE Γ σ k = .inr (ci, xfs Γ σ k ci rs) := by
  unfold xE; rw [hk]
theorem xE_arr (Γ : xG) (σ : xS) {k n : Nat} {ty : FieldType} (hk : (xSp Γ)[k]? = some (.inr (ty, n))) : xE Γ σ k = .inl (xcA Γ k, n, xar σ k ty) := by
  unfold xE; rw [hk]
theorem xk_lt {S : List xSh} {k : Nat} {q : xSh} (hk : S[k]? = some q) : k < S.length := (List.getElem?_eq_some_iff.mp hk).1
theorem xo_at (Γ : xG) (σ : xS) {k ci : Nat} {rs : List (Option Nat)} (hk : (xSp Γ)[k]? = some (.inl (ci, rs))) : (xWd Γ σ)[k]? = some (xad Γ k, .inr (ci, xfs Γ σ k ci rs)) := by
  rw [xWd_at Γ σ (xk_lt hk), xE_obj Γ σ hk]
theorem xa_at (Γ : xG) (σ : xS) {k n : Nat} {ty : FieldType} (hk : (xSp Γ)[k]? = some (.inr (ty, n))) : (xWd Γ σ)[k]? = some (xad Γ k, .inl (xcA Γ k, n, xar σ k ty)) := by
  rw [xWd_at Γ σ (xk_lt hk), xE_arr Γ σ hk]
theorem xfs_at {Γ : xG} {σ : xS} {k ci j : Nat} {rs : List (Option Nat)} (hj : j < xN ci) : (xfs Γ σ k ci rs)[j]? = some (xfv Γ σ k ci rs j) := by
  simp [xfs, hj]
theorem xfs_len {Γ : xG} {σ : xS} {k ci : Nat} {rs : List (Option Nat)} : (xfs Γ σ k ci rs).length = xN ci := by simp [xfs]
theorem xfs_pi {Γ : xG} {σ : xS} {k ci j : Nat} {rs : List (Option Nat)} {v : Int32} (ht : xty ci j = .int ∨ xty ci j = .boolean) : (xfs Γ σ k ci rs).set j (.int v) = xfs Γ (xpi σ k j v) k ci rs := by
  apply List.ext_getElem?
  intro a
  by_cases ha : a < xN ci
  · rw [List.getElem?_set, xfs_at ha, xfs_at ha, xfs_len]
    by_cases e : j = a
    · subst e
      simp only [ha, if_true]
      unfold xfv
      rcases ht with ht | ht <;> rw [ht] <;> simp [xi_pi]
    · simp only [e, if_false]
      unfold xfv
      have e1 : xi (xpi σ k j v) k a = xi σ k a := by rw [xi_pi, if_neg (fun z => e z.2.symm)]
      rw [e1]
      rfl
  · have h1 : ((xfs Γ σ k ci rs).set j (.int v)).length ≤ a := by rw [List.length_set, xfs_len]; omega
    have h2 : (xfs Γ (xpi σ k j v) k ci rs).length ≤ a := by rw [xfs_len]; omega
    rw [List.getElem?_eq_none h1, List.getElem?_eq_none h2]
theorem xfs_pl {Γ : xG} {σ : xS} {k ci j : Nat} {rs : List (Option Nat)} {v : Int64} (ht : xty ci j = .long) : (xfs Γ σ k ci rs).set j (.long v) = xfs Γ (xpl σ k j v) k ci rs := by
  apply List.ext_getElem?
  intro a
  by_cases ha : a < xN ci
  · rw [List.getElem?_set, xfs_at ha, xfs_at ha, xfs_len]
    by_cases e : j = a
    · subst e
      simp only [ha, if_true]
      unfold xfv
      rw [ht]
      simp [xl_pl]
    · simp only [e, if_false]
      unfold xfv
      have e1 : xl (xpl σ k j v) k a = xl σ k a := by rw [xl_pl, if_neg (fun z => e z.2.symm)]
      rw [e1]
      rfl
  · have h1 : ((xfs Γ σ k ci rs).set j (.long v)).length ≤ a := by rw [List.length_set, xfs_len]; omega
    have h2 : (xfs Γ (xpl σ k j v) k ci rs).length ≤ a := by rw [xfs_len]; omega
    rw [List.getElem?_eq_none h1, List.getElem?_eq_none h2]
section FLD
variable {Γ : xG} {Y : xMth} {d b0 pc : Nat} {lv : List (Nat × Value)} {st : List Value} {σ : xS} {Q : xO → xS → Prop}
theorem xJ.getfield {k ci j idx : Nat} {rs : List (Option Nat)} {v : Value} (hd : decode Y.2.1 pc = .ok (.getfield idx, 3)) (hf : xFl Y.1.cls idx ci j) (hk : (xSp Γ)[k]? = some (.inl (ci, rs))) (hv : xfa σ k ci rs j = some v)
    (kk : xJ Γ Y d b0 (pc + 3) lv (v :: st) σ Q) : xJ Γ Y d b0 pc lv (.ref k :: st) σ Q := by
  intro p e s m args below meth c E H locs ls hP hS hl hb
  obtain ⟨C, T, N, hc, hj, hN, hw⟩ := hf
  exact va_get (D := xD Γ) (ci := ci) (v := xV Γ v) (C := C) (T := T) (N := N) E.x E.b E.ts (xcl_in hc) E.own E.bd.1.va hP k (xo_at Γ σ hk) hc j hj (E.ts _ hw) (fun _ z => z) (by rw [xfs_at (by omega), xfa_v hv]) hd (kk p e s m args below meth c E H locs ls hP hS hl hb)
theorem xJ.putI {k ci j idx : Nat} {rs : List (Option Nat)} {v : Int32} (hd : decode Y.2.1 pc = .ok (.putfield idx, 3)) (hf : xFl Y.1.cls idx ci j) (hk : (xSp Γ)[k]? = some (.inl (ci, rs))) (ht : xty ci j = .int) (hfin : xfin ci j = false)
    (kk : xJ Γ Y d b0 (pc + 3) lv st (xpi σ k j v) Q) : xJ Γ Y d b0 pc lv (.int v :: .ref k :: st) σ Q := by
  intro p e s m args below meth c E H locs ls hP hS hl hb
  obtain ⟨C, T, N, hc, hj, hN, hw⟩ := hf
  have hpf := xcl_ty hc j hj
  rw [ht] at hpf
  refine va_put (D := xD Γ) (ci := ci) (v := .int v) (ty := .int) (C := C) (T := T) (N := N) E.x E.b E.ts (xcl_in hc) (xty ci) (xcl_ty hc) (xcl_nm hc) E.own E.bd.1.va hP (E.bd.2.1.D σ) hS k (xo_at Γ σ hk) hc j hj (E.ts _ hw) (fun _ z => z) (by rw [← xfin_of hc hj]; exact hfin) hpf rfl rfl (by rw [xfs_len]; omega) hd (fun H1 locs1 hP1 hD1 hS1 => ?_)
  rw [xfs_pi (Or.inl ht), ← xE_obj Γ (xpi σ k j v) hk, xWd_set Γ (fun a ha => xE_pi Γ σ ha)] at hP1
  exact kk p e s m args below meth c E H1 locs1 ls hP1 hS1 hl hb
theorem xJ.putZ {k ci j idx : Nat} {rs : List (Option Nat)} {v : Int32} (hd : decode Y.2.1 pc = .ok (.putfield idx, 3)) (hf : xFl Y.1.cls idx ci j) (hk : (xSp Γ)[k]? = some (.inl (ci, rs))) (ht : xty ci j = .boolean) (hfin : xfin ci j = false) (hn : v = 0 ∨ v = 1)
    (kk : xJ Γ Y d b0 (pc + 3) lv st (xpi σ k j v) Q) : xJ Γ Y d b0 pc lv (.int v :: .ref k :: st) σ Q := by
  intro p e s m args below meth c E H locs ls hP hS hl hb
  obtain ⟨C, T, N, hc, hj, hN, hw⟩ := hf
  have hpf := xcl_ty hc j hj
  rw [ht] at hpf
  refine va_put (D := xD Γ) (ci := ci) (v := .int v) (ty := .boolean) (C := C) (T := T) (N := N) E.x E.b E.ts (xcl_in hc) (xty ci) (xcl_ty hc) (xcl_nm hc) E.own E.bd.1.va hP (E.bd.2.1.D σ) hS k (xo_at Γ σ hk) hc j hj (E.ts _ hw) (fun _ z => z) (by rw [← xfin_of hc hj]; exact hfin) hpf (xz_n hn) (xz_f hn) (by rw [xfs_len]; omega) hd (fun H1 locs1 hP1 hD1 hS1 => ?_)
  rw [xfs_pi (Or.inr ht), ← xE_obj Γ (xpi σ k j v) hk, xWd_set Γ (fun a ha => xE_pi Γ σ ha)] at hP1
  exact kk p e s m args below meth c E H1 locs1 ls hP1 hS1 hl hb
theorem xJ.putL {k ci j idx : Nat} {rs : List (Option Nat)} {v : Int64} (hd : decode Y.2.1 pc = .ok (.putfield idx, 3)) (hf : xFl Y.1.cls idx ci j) (hk : (xSp Γ)[k]? = some (.inl (ci, rs))) (ht : xty ci j = .long) (hfin : xfin ci j = false)
    (kk : xJ Γ Y d b0 (pc + 3) lv st (xpl σ k j v) Q) : xJ Γ Y d b0 pc lv (.long v :: .ref k :: st) σ Q := by
  intro p e s m args below meth c E H locs ls hP hS hl hb
  obtain ⟨C, T, N, hc, hj, hN, hw⟩ := hf
  have hpf := xcl_ty hc j hj
  rw [ht] at hpf
  refine va_put (D := xD Γ) (ci := ci) (v := .long v) (ty := .long) (C := C) (T := T) (N := N) E.x E.b E.ts (xcl_in hc) (xty ci) (xcl_ty hc) (xcl_nm hc) E.own E.bd.1.va hP (E.bd.2.1.D σ) hS k (xo_at Γ σ hk) hc j hj (E.ts _ hw) (fun _ z => z) (by rw [← xfin_of hc hj]; exact hfin) hpf rfl rfl (by rw [xfs_len]; omega) hd (fun H1 locs1 hP1 hD1 hS1 => ?_)
  rw [xfs_pl ht, ← xE_obj Γ (xpl σ k j v) hk, xWd_set Γ (fun a ha => xE_pl Γ σ ha)] at hP1
  exact kk p e s m args below meth c E H1 locs1 ls hP1 hS1 hl hb
/-! arrays -/
theorem xJ.iaload {k n : Nat} {i : Int32} (hd : decode Y.2.1 pc = .ok (.iaload, 1)) (hk : (xSp Γ)[k]? = some (.inr (.int, n))) (hin : vp_in i n) (kk : xJ Γ Y d b0 (pc + 1) lv (.int (xi σ k i.toNatClampNeg) :: st) σ Q) : xJ Γ Y d b0 pc lv (.int i :: .ref k :: st) σ Q :=
  fun p e s m args below meth c E H locs ls hP hS hl hb => va_iald E.x E.b (E.bd.1.arr hk) hP k 0 (xa_at Γ σ hk) rfl hin hd (kk p e s m args below meth c E H locs ls hP hS hl hb)
theorem xJ.baload {k n : Nat} {i : Int32} (hd : decode Y.2.1 pc = .ok (.baload, 1)) (hk : (xSp Γ)[k]? = some (.inr (.byte, n))) (hin : vp_in i n) (kk : xJ Γ Y d b0 (pc + 1) lv (.int (xi σ k i.toNatClampNeg) :: st) σ Q) : xJ Γ Y d b0 pc lv (.int i :: .ref k :: st) σ Q :=
  fun p e s m args below meth c E H locs ls hP hS hl hb => va_bald E.x E.b (E.bd.1.arr hk) hP k 0 (xa_at Γ σ hk) rfl hin hd (kk p e s m args below meth c E H locs ls hP hS hl hb)
theorem xJ.zaload {k n : Nat} {i : Int32} (hd : decode Y.2.1 pc = .ok (.baload, 1)) (hk : (xSp Γ)[k]? = some (.inr (.boolean, n))) (hin : vp_in i n) (kk : xJ Γ Y d b0 (pc + 1) lv (.int (xi σ k i.toNatClampNeg) :: st) σ Q) : xJ Γ Y d b0 pc lv (.int i :: .ref k :: st) σ Q :=
  fun p e s m args below meth c E H locs ls hP hS hl hb => va_zald E.x E.b (E.bd.1.arr hk) hP k 0 (xa_at Γ σ hk) rfl hin hd (kk p e s m args below meth c E H locs ls hP hS hl hb)
theorem xJ.laload {k n : Nat} {i : Int32} (hd : decode Y.2.1 pc = .ok (.laload, 1)) (hk : (xSp Γ)[k]? = some (.inr (.long, n))) (hin : vp_in i n) (kk : xJ Γ Y d b0 (pc + 1) lv (.long (xl σ k i.toNatClampNeg) :: st) σ Q) : xJ Γ Y d b0 pc lv (.int i :: .ref k :: st) σ Q :=
  fun p e s m args below meth c E H locs ls hP hS hl hb => va_lald E.x E.b (E.bd.1.arr hk) hP k 0 (xa_at Γ σ hk) rfl hin hd (kk p e s m args below meth c E H locs ls hP hS hl hb)
theorem xJ.alen {k n : Nat} {ty : FieldType} (hd : decode Y.2.1 pc = .ok (.arraylength, 1)) (hk : (xSp Γ)[k]? = some (.inr (ty, n))) (kk : xJ Γ Y d b0 (pc + 1) lv (.int (Int32.ofNat n) :: st) σ Q) : xJ Γ Y d b0 pc lv (.ref k :: st) σ Q :=
  fun p e s m args below meth c E H locs ls hP hS hl hb => va_alen E.x E.b (E.bd.1.arr hk) hP k 0 (xa_at Γ σ hk) rfl rfl hd (kk p e s m args below meth c E H locs ls hP hS hl hb)
theorem xar_pi {Γ : xG} {σ : xS} {k n j : Nat} {ty : FieldType} {x : Int32} (hk : (xSp Γ)[k]? = some (.inr (ty, n))) (ht : ty ≠ .long) : (xWd Γ σ).set k (xad Γ k, .inl (xcA Γ k, n, .inl (upd (xi σ k) j x))) = xWd Γ (xpi σ k j x) := by
  have e1 : upd (xi σ k) j x = xi (xpi σ k j x) k := by
    funext a
    rw [xi_pi]
    simp [upd]
  have e2 : xar (xpi σ k j x) k ty = .inl (xi (xpi σ k j x) k) := by
    unfold xar
    cases ty <;> first | rfl | exact absurd rfl ht
  rw [e1, ← e2, ← xE_arr Γ (xpi σ k j x) hk, xWd_set Γ (fun a ha => xE_pi Γ σ ha)]
theorem xar_pl {Γ : xG} {σ : xS} {k n j : Nat} {x : Int64} (hk : (xSp Γ)[k]? = some (.inr (.long, n))) : (xWd Γ σ).set k (xad Γ k, .inl (xcA Γ k, n, .inr (.inl (vp_updL (xl σ k) j x)))) = xWd Γ (xpl σ k j x) := by
  have e1 : vp_updL (xl σ k) j x = xl (xpl σ k j x) k := by
    funext a
    rw [xl_pl]
    simp [vp_updL]
  have e2 : xar (xpl σ k j x) k .long = .inr (.inl (xl (xpl σ k j x) k)) := rfl
  rw [e1, ← e2, ← xE_arr Γ (xpl σ k j x) hk, xWd_set Γ (fun a ha => xE_pl Γ σ ha)]
theorem xJ.iastore {k n : Nat} {i x : Int32} (hd : decode Y.2.1 pc = .ok (.iastore, 1)) (hk : (xSp Γ)[k]? = some (.inr (.int, n))) (hin : vp_in i n) (kk : xJ Γ Y d b0 (pc + 1) lv st (xpi σ k i.toNatClampNeg x) Q) : xJ Γ Y d b0 pc lv (.int x :: .int i :: .ref k :: st) σ Q := by
  intro p e s m args below meth c E H locs ls hP hS hl hb
  refine va_iast E.x E.b (E.bd.1.arr hk) hP (E.bd.2.1.D σ) hS k 0 (xa_at Γ σ hk) rfl hin hd (fun H1 locs1 hP1 hD1 hS1 => ?_)
  rw [xar_pi hk (by decide)] at hP1
  exact kk p e s m args below meth c E H1 locs1 ls hP1 hS1 hl hb
theorem xJ.bastore {k n : Nat} {i x : Int32} (hd : decode Y.2.1 pc = .ok (.bastore, 1)) (hk : (xSp Γ)[k]? = some (.inr (.byte, n))) (hin : vp_in i n) (kk : xJ Γ Y d b0 (pc + 1) lv st (xpi σ k i.toNatClampNeg (vp_nar .byte x)) Q) : xJ Γ Y d b0 pc lv (.int x :: .int i :: .ref k :: st) σ Q := by
  intro p e s m args below meth c E H locs ls hP hS hl hb
  refine va_bast E.x E.b (E.bd.1.arr hk) hP (E.bd.2.1.D σ) hS k 0 (xa_at Γ σ hk) rfl hin hd (fun H1 locs1 hP1 hD1 hS1 => ?_)
  rw [xar_pi hk (by decide)] at hP1
  exact kk p e s m args below meth c E H1 locs1 ls hP1 hS1 hl hb
theorem xJ.zastore {k n : Nat} {i x : Int32} (hd : decode Y.2.1 pc = .ok (.bastore, 1)) (hk : (xSp Γ)[k]? = some (.inr (.boolean, n))) (hin : vp_in i n) (kk : xJ Γ Y d b0 (pc + 1) lv st (xpi σ k i.toNatClampNeg (vp_nar .boolean x)) Q) : xJ Γ Y d b0 pc lv (.int x :: .int i :: .ref k :: st) σ Q := by
  intro p e s m args below meth c E H locs ls hP hS hl hb
  refine va_zast E.x E.b (E.bd.1.arr hk) hP (E.bd.2.1.D σ) hS k 0 (xa_at Γ σ hk) rfl hin hd (fun H1 locs1 hP1 hD1 hS1 => ?_)
  rw [xar_pi hk (by decide)] at hP1
  exact kk p e s m args below meth c E H1 locs1 ls hP1 hS1 hl hb
theorem xJ.lastore {k n : Nat} {i : Int32} {x : Int64} (hd : decode Y.2.1 pc = .ok (.lastore, 1)) (hk : (xSp Γ)[k]? = some (.inr (.long, n))) (hin : vp_in i n) (kk : xJ Γ Y d b0 (pc + 1) lv st (xpl σ k i.toNatClampNeg x) Q) : xJ Γ Y d b0 pc lv (.long x :: .int i :: .ref k :: st) σ Q := by
  intro p e s m args below meth c E H locs ls hP hS hl hb
  refine va_last E.x E.b (E.bd.1.arr hk) hP (E.bd.2.1.D σ) hS k 0 (xa_at Γ σ hk) rfl hin hd (fun H1 locs1 hP1 hD1 hS1 => ?_)
  rw [xar_pl hk] at hP1
  exact kk p e s m args below meth c E H1 locs1 ls hP1 hS1 hl hb
end FLD
/-! calls -/
section CALLS
variable {Γ : xG} {Y' : xMth} {d' : Nat} {as : List Value} {σ : xS} {Q' : xO → xS → Prop}
theorem xheap_setTop (T : State) (g : JFrame) : (T.setTop g).heap = T.heap := by simp [State.setTop, State.modifyTopJava]
/-- what a call comes to -/
def xBack (Γ : xG) (Q' : xO → xS → Prop) (σ : xS) (p : Program) (e : Env) (R : Room) (s : State) (m : MethodId) (args : Array Value) (below : List Frame) (meth : Method) (c : Code) (locs : List Loc) (cells slots : Nat) (S₀ : State) (g : JFrame) (len : Nat) : Prop :=
  ∃ (out : xO) (σ' : xS) (T' : State) (L : List Loc), Q' out σ' ∧ xb σ' ≤ xb σ ∧ Stand p (xLa Γ) e R s m args below meth c T' (locs ++ L) (cells + (xb σ - xb σ') * xec) (slots + (xb σ - xb σ') * xes) ∧
    va_P (xD Γ) xcl (xWd Γ σ') T'.heap ∧ va_S (xA Γ) s.heap T'.heap (locs ++ L) ∧
    match out with
    | .inl v => Steps p.tables e below S₀ (T'.setTop { g with pc := g.pc + len, stack := (v.map (xV Γ)).toList ++ g.stack })
    | .inr n => ∃ (x : Addr) (cell : Cell), Steps p.tables e below S₀ ((T'.setTop g).pushFrame (.throwing x)) ∧ T'.heap[x]? = some cell ∧ cell.vm = .none ∧ T'.vm.findClass (xexc.getD n "") = some cell.cls ∧ ∃ k, T'.vm.classes[cell.cls]? = some k
theorem xcall {p : Program} {e : Env} {R : Room} {s : State} {m : MethodId} {args : Array Value} {below : List Frame} {meth : Method} {c : Code} {T : State} {locs : List Loc} {cells slots : Nat}
    (X : Stand p (xLa Γ) e R s m args below meth c T locs cells slots) (hM : xM Γ Y' d' as σ Q') (hbd : xBody Γ s) (hts : ∀ w ∈ lw_gd, w.before args s = true)
    (hP : va_P (xD Γ) xcl (xWd Γ σ) T.heap) (hS : va_S (xA Γ) s.heap T.heap locs) {g : JFrame} (hg : g.method = m) (hsize : g.locals.size = c.maxLocals) {ig : Instr} {len : Nat} (hdg : decode c.code g.pc = .ok (ig, len))
    (hW : 2 * g.monitorRoom + (g.stack.map fun v => v.category).sum ≤ 8) {mk : MethodId} (hn : T.methodNamed? Y'.1 = some mk) (hcw : xCw Y' ∈ lw_gd) (hini : Cond.initialized Y'.1.cls ∈ lw_gd)
    (hfr : d' + 1 ≤ R.frames) (hlo : 8 + (Y'.2.2.1 + 11) + 64 * d' ≤ R.locals) (hce : cells + xb σ * xec ≤ R.cells) (hsl : slots + xb σ * xes ≤ R.slots) :
    xBack Γ Q' σ p e R s m args below meth c locs cells slots (doInvoke e (T.setTop g) [] mk (as.map (xV Γ)).toArray).1 g len := by
  generalize ha : (as.map (xV Γ)).toArray = a
  have hword : ∀ w ∈ lw_gd, w.before a T = true := fun w hw => word_at X.warmed (xGood w hw) (hts w hw)
  have hpre : (headSpec (xCw Y' :: lw_gd) (xR d' (xb σ))).pre.before a T = true := atoms_intro fun w hw => by
    rcases List.mem_cons.mp hw with rfl | hw
    · exact hword _ hcw
    · exact hword _ hw
  obtain ⟨methY, cY, hmY, hcY, -, hlY, -, -, -, -⟩ := xCw_spec (hword _ hcw) hn
  obtain ⟨kY, hkY, -⟩ := className_of_methodNamed hn
  have hinitY : kY.init = .initialized := Cond.initialized_spec (findClass_of_methodNamed hn) hkY (hword _ hini)
  have h : At T g.method c below := by rw [hg]; exact X.here
  have happ : (headSpec (xCw Y' :: lw_gd) (xR d' (xb σ))).appliesLoose Y'.1 e.platform (T.calling g mk a) = true :=
    Spec.appliesLoose_calling (g := g) h hdg hn hkY hinitY
      (X.room_calling (g := g) (R' := xR d' (xb σ)) hsize hmY hcY hfr (by rw [hlY]; show _ + _ + 64 * d' ≤ _; omega) hce hsl) hpre
  obtain ⟨mid, hmid⟩ := h.above
  have hfr' : (T.setTop g).frames = (.java g :: mid) ++ below := by rw [State.frames_setTop' g h.top, hmid]; rfl
  have hbd' : xBody Γ (T.calling g mk a) := hbd.moved (U := T.calling g mk a) X.warmed hS rfl
  obtain ⟨o, t, hsteps, -, hend, hq⟩ := Steps.callFree hM p X.admits X.cas X.clock (acts := []) hfr' happ ⟨ha.symm, hbd', hP⟩ trivial
  have hq' : xEnd Γ Q' (T.calling g mk a) (xb σ) o t := hq
  obtain ⟨out, σ', ho, hQ, hP', hF, hb', hW', L, hsame, hL⟩ := hq'
  rw [State.frames_setTop' g h.top, X.tail] at hend
  have hSt : ∀ T' : State, T'.heap = t.heap → va_S (xA Γ) s.heap T'.heap (locs ++ L) := fun T' e1 => by
    rw [e1]
    refine ⟨Nat.le_trans hS.1 hF.1, fun q h1 h2 => (hF.2 q (Nat.lt_of_lt_of_le h1 hS.1) h2).trans (hS.2.1 q h1 h2), fun q hq => ?_⟩
    rcases List.mem_append.mp hq with h | h
    · exact hS.2.2 q h
    · exact hL q h
  cases out with
  | inl v =>
    have ho' : o = .returned (v.map (xV Γ)) := ho
    subst ho'
    obtain ⟨T', X', -, -, ht⟩ := X.outOf hg hdg hend hW' hsame
    have e1 : T'.heap = t.heap := by rw [ht, xheap_setTop]
    refine ⟨.inl v, σ', T', L, hQ, hb', X', by rw [e1]; exact hP', hSt T' e1, ?_⟩
    show Steps p.tables e below _ (T'.setTop { g with pc := g.pc + len, stack := (v.map (xV Γ)).toList ++ g.stack })
    rw [← ht]
    exact hsteps
  | inr n =>
    obtain ⟨x, cell, ho', g1, g2, g3, g4⟩ := ho
    subst ho'
    obtain ⟨T', X', -, -, ht⟩ := X.outOfThrown hg hend hW' hsame
    have e1 : T'.heap = t.heap := by rw [ht, Stand.throwing_heap]
    have e2 : T'.vm = t.vm := by rw [ht, Stand.throwing_vm]
    refine ⟨.inr n, σ', T', L, hQ, hb', X', by rw [e1]; exact hP', hSt T' e1, x, cell, ?_, by rw [e1]; exact g1, g2, by rw [e2]; exact g3, by rw [e2]; exact g4⟩
    rw [← ht]
    exact hsteps
end CALLS
def xnp (Y' : xMth) : Option Nat := (parseMethodDescriptor Y'.1.desc).map (fun d => d.parameters.length)
/-- what the tables say of a method of n parameters -/
def xYc (Y' : xMth) (n : Nat) : Prop := xCw Y' ∈ lw_gd ∧ Cond.initialized Y'.1.cls ∈ lw_gd ∧ (Y'.1.cls ≠ "java/lang/invoke/MethodHandle" ∧ Y'.1.cls ≠ "java/lang/invoke/VarHandle") ∧ xnp Y' = some n ∧ Y'.2.2.1 ≤ 45
theorem xCw_named {Y : xMth} {args : Array Value} {s : State} (h : (xCw Y).before args s = true) : ∃ mk, s.methodNamed? Y.1 = some mk := by
  obtain ⟨y, cc, nL, rt, hh⟩ := Y
  cases hh with
  | nil => exact Cond.code_named h
  | cons a t =>
    obtain ⟨m', meth, c, h0, -⟩ := Cond.codeWith_spec (show (Cond.codeWith y cc nL rt (a :: t)).holds args s none s [] = true from h)
    exact ⟨m', h0⟩
section CROWS
variable {Γ : xG} {Y Y' : xMth} {d b0 pc : Nat} {lv : List (Nat × Value)} {st : List Value} {σ : xS} {Q Q' : xO → xS → Prop}
/-- behind a call: the caller goes on, or what is thrown leaves it -/
theorem xcont {p : Program} {e : Env} {s : State} {m : MethodId} {args : Array Value} {below : List Frame} {meth : Method} {c : Code} {locs : List Loc} {ls : Array Slot} {S₀ : State}
    (E : xEnt Γ Y (xR d b0) p e s m args meth c) (hl : lv_has ls Y.2.2.1 (xLv Γ lv)) (hb : xb σ ≤ b0)
    (B : xBack Γ Q' σ p e (xR d b0) s m args below meth c locs ((b0 - xb σ) * xec) ((b0 - xb σ) * xes) S₀ (F0 m pc ls (st.map (xV Γ))) 3)
    (kr : ∀ (v : Option Value) (σ' : xS), Q' (.inl v) σ' → xJ Γ Y d b0 (pc + 3) lv (v.toList ++ st) σ' Q)
    (kt : ∀ (n : Nat) (σ' : xS), Q' (.inr n) σ' → Q (.inr n) σ') (hh : ∀ h ∈ Y.2.2.2.2, ¬ (h.1 ≤ pc ∧ pc < h.2.1)) :
    ∃ t, Steps p.tables e below S₀ t ∧ xZ Γ Q s below b0 t := by
  obtain ⟨out, σ', T', L, hQ, hb', X', hP', hS', hgo⟩ := B
  have ec : (b0 - xb σ) * xec + (xb σ - xb σ') * xec = (b0 - xb σ') * xec := by rw [← Nat.add_mul]; congr 1; omega
  have es : (b0 - xb σ) * xes + (xb σ - xb σ') * xes = (b0 - xb σ') * xes := by rw [← Nat.add_mul]; congr 1; omega
  rw [ec, es] at X'
  cases out with
  | inl v =>
    obtain ⟨t, a, b⟩ := kr v σ' hQ p e s m args below meth c E T'.heap (locs ++ L) ls hP' hS' hl (Nat.le_trans hb' hb) T' rfl X'
    refine ⟨t, ?_, b⟩
    have hm : (v.toList ++ st).map (xV Γ) = (v.map (xV Γ)).toList ++ st.map (xV Γ) := by cases v <;> simp
    rw [hm] at a
    exact hgo.trans a
  | inr n =>
    obtain ⟨x, cell, hgo, g1, g2, g3, g4⟩ := hgo
    have hout : ∀ y ∈ c.exceptionTable.toList, covers y pc = false := by
      intro y hy
      have hm : (y.startPc, y.endPc, y.handlerPc, y.catchType) ∈ Y.2.2.2.2 := by rw [← E.tb]; exact List.mem_map.mpr ⟨y, hy, rfl⟩
      have := hh _ hm
      simpa [covers] using this
    obtain ⟨w1, w2, w3, w4, w5⟩ := X'.leaveThrown x (g := F0 m pc ls (st.map (xV Γ))) rfl rfl rfl hout E.lk
    refine ⟨_, hgo.trans w1, .threw x, w2, w3, .inr n, σ', ⟨x, cell, rfl, g1, g2, g3, g4⟩, kt n σ' hQ, hP', ⟨hS'.1, hS'.2.1⟩, Nat.le_trans hb' hb, w4, _, w5, hS'.2.2⟩
theorem xJ.callS {idx n : Nat} {as stk : List Value} (hd : decode Y.2.1 pc = .ok (.invokestatic idx, 3)) (hl1 : Cond.methodLink Y.1.cls idx Y'.1 ∈ lw_gd) (hy : xYc Y' n) (hst : Cond.static Y'.1 ∈ lw_gd) (hM : xM Γ Y' d as σ Q') (hn : as.length = n) (hs : stk = as.reverse ++ st)
    (hW : (st.map fun v => v.category).sum ≤ 8) (hh : ∀ h ∈ Y.2.2.2.2, ¬ (h.1 ≤ pc ∧ pc < h.2.1))
    (kr : ∀ (v : Option Value) (σ' : xS), Q' (.inl v) σ' → xJ Γ Y (d + 1) b0 (pc + 3) lv (v.toList ++ st) σ' Q) (kt : ∀ (n : Nat) (σ' : xS), Q' (.inr n) σ' → Q (.inr n) σ') :
    xJ Γ Y (d + 1) b0 pc lv stk σ Q := by
  subst hs
  intro p e s m args below meth c E H locs ls hP hS hlv hb T hT X
  subst hT
  obtain ⟨hl2, hl3, hl4, hnp, hL⟩ := hy
  obtain ⟨mk, hnamed⟩ : ∃ mk, s.methodNamed? Y'.1 = some mk := xCw_named (E.ts _ hl2)
  obtain ⟨methM, cM, hmethM, -, -, -, -, -, -, hsigM⟩ := xCw_spec (E.ts _ hl2) hnamed
  have hstatic : methM.isStatic = true := Cond.static_spec hnamed hmethM (E.ts _ hst)
  obtain ⟨kP, hkP, -⟩ := className_of_methodNamed hnamed
  have hinitP : kP.init = .initialized := Cond.initialized_spec (findClass_of_methodNamed hnamed) hkP (E.ts _ hl3)
  have hlen : (as.map (xV Γ)).length = methM.sig.parameters.length := by
    unfold xnp at hnp
    rw [hsigM] at hnp
    rw [List.length_map, hn]
    exact (Option.some.inj hnp).symm
  obtain ⟨vm₁, X₁, hstep₁⟩ := X.invokestatic E.x E.own (E.ts _ hl1) hnamed hmethM hstatic hkP hinitP hl4 (g := F0 m pc ls ((as.reverse ++ st).map (xV Γ))) rfl (argsL := as.map (xV Γ)) (rest := st.map (xV Γ)) hlen (by simp [List.map_reverse]) (by rw [E.b]; exact hd)
  have hcat : 2 * (F0 m pc ls (st.map (xV Γ))).monitorRoom + ((st.map (xV Γ)).map fun v => v.category).sum ≤ 8 := lv_room (by simpa [List.map_map, Function.comp_def, xV_cat] using hW)
  have B := xcall (g := F0 m pc ls (st.map (xV Γ))) X₁ hM E.bd E.ts hP hS rfl (by rw [E.n]; exact hlv.1) (ig := .invokestatic idx) (len := 3) (by rw [E.b]; exact hd) hcat (X₁.named hnamed) hl2 hl3 (Nat.le_refl _) (by show _ ≤ 64 * (d + 1); omega)
    (by show (b0 - xb σ) * xec + xb σ * xec ≤ b0 * xec; rw [← Nat.add_mul]; exact Nat.mul_le_mul_right _ (by omega)) (by show (b0 - xb σ) * xes + xb σ * xes ≤ b0 * xes; rw [← Nat.add_mul]; exact Nat.mul_le_mul_right _ (by omega))
  obtain ⟨t, a, b⟩ := xcont E hlv hb B kr kt hh
  exact ⟨t, hstep₁ _ fun acts => by rw [doInvoke_state]; exact a, b⟩
theorem xJ.callV {idx n k ci : Nat} {rs : List (Option Nat)} {as stk : List Value} (hd : decode Y.2.1 pc = .ok (.invokevirtual idx, 3)) (hl1 : Cond.methodLink Y.1.cls idx Y'.1 ∈ lw_gd) (hy : xYc Y' n) (hin : Cond.instanceMethod Y'.1 ∈ lw_gd) (hse : Cond.selects Y'.1.cls Y'.1 Y'.1 ∈ lw_gd)
    (hk : (xSp Γ)[k]? = some (.inl (ci, rs))) (hC : (xcl[ci]?).map (fun q => q.1) = some Y'.1.cls) (hM : xM Γ Y' d (.ref k :: as) σ Q') (hn : as.length = n) (hs : stk = as.reverse ++ .ref k :: st)
    (hW : (st.map fun v => v.category).sum ≤ 8) (hh : ∀ h ∈ Y.2.2.2.2, ¬ (h.1 ≤ pc ∧ pc < h.2.1))
    (kr : ∀ (v : Option Value) (σ' : xS), Q' (.inl v) σ' → xJ Γ Y (d + 1) b0 (pc + 3) lv (v.toList ++ st) σ' Q) (kt : ∀ (n : Nat) (σ' : xS), Q' (.inr n) σ' → Q (.inr n) σ') :
    xJ Γ Y (d + 1) b0 pc lv stk σ Q := by
  subst hs
  intro p e s m args below meth c E H locs ls hP hS hlv hb T hT X
  subst hT
  obtain ⟨hl2, hl3, hl4, hnp, hL⟩ := hy
  obtain ⟨mk, methM, hnamed, hmethM, hstM, habM⟩ := Cond.instanceMethod_spec (E.ts _ hin)
  obtain ⟨methM', cM, hmethM', -, -, -, -, -, -, hsigM⟩ := xCw_spec (E.ts _ hl2) hnamed
  cases hmethM.symm.trans hmethM'
  obtain ⟨c2, r2, m2, q1, q2, q3, q4, kP, hkP, hkPi⟩ := Cond.selects_spec (E.ts _ hse)
  obtain ⟨q, hcq, hcq'⟩ := Option.map_eq_some_iff.mp hC
  obtain ⟨cellB, hcB, hoB, hclB⟩ := va_recv E.bd.1.va hP hcq (xo_at Γ σ hk)
  rw [hcq'] at hclB
  cases hclB.symm.trans q1
  cases (State.methodFound?_of_named hnamed hl4).symm.trans q2
  cases hnamed.symm.trans q3
  have hselP : selectMethod e.platform s.vm cellB.cls mk = .method mk := by rw [Launch.admits_selectMethod X.admits]; exact q4
  have hlen : (as.map (xV Γ)).length = methM.sig.parameters.length := by
    unfold xnp at hnp
    rw [hsigM] at hnp
    rw [List.length_map, hn]
    exact (Option.some.inj hnp).symm
  obtain ⟨vm₁, X₁, hstep₁⟩ := X.invokevirtual E.x E.own (E.ts _ hl1) hnamed hmethM hstM hkP hkPi hl4 (a := xad Γ k) (cell := cellB) hcB (fun z h => by rw [h] at hoB; cases hoB) hselP hmethM habM hkP hkPi
    (g := F0 m pc ls ((as.reverse ++ .ref k :: st).map (xV Γ))) rfl (argsL := as.map (xV Γ)) (rest := st.map (xV Γ)) hlen (by simp [List.map_reverse, xV]) (by rw [E.b]; exact hd)
  have hcat : 2 * (F0 m pc ls (st.map (xV Γ))).monitorRoom + ((st.map (xV Γ)).map fun v => v.category).sum ≤ 8 := lv_room (by simpa [List.map_map, Function.comp_def, xV_cat] using hW)
  have B := xcall (g := F0 m pc ls (st.map (xV Γ))) X₁ hM E.bd E.ts hP hS rfl (by rw [E.n]; exact hlv.1) (ig := .invokevirtual idx) (len := 3) (by rw [E.b]; exact hd) hcat (X₁.named hnamed) hl2 hl3 (Nat.le_refl _) (by show _ ≤ 64 * (d + 1); omega)
    (by show (b0 - xb σ) * xec + xb σ * xec ≤ b0 * xec; rw [← Nat.add_mul]; exact Nat.mul_le_mul_right _ (by omega)) (by show (b0 - xb σ) * xes + xb σ * xes ≤ b0 * xes; rw [← Nat.add_mul]; exact Nat.mul_le_mul_right _ (by omega))
  obtain ⟨t, a, b⟩ := xcont E hlv hb B kr kt hh
  exact ⟨t, hstep₁ _ fun acts => by rw [doInvoke_state]; exact a, b⟩
end CROWS
/-! shorter words for the shifts -/
abbrev jishl (x y : Int32) : Int32 := x <<< (y &&& 31)
abbrev jishr (x y : Int32) : Int32 := x >>> (y &&& 31)
abbrev jiushr (x y : Int32) : Int32 := (x.toUInt32 >>> (y.toUInt32 &&& Int32.toUInt32 31)).toInt32
abbrev jlshl (x : Int64) (y : Int32) : Int64 := x <<< (y.toInt64 &&& 63)
abbrev jlshr (x : Int64) (y : Int32) : Int64 := x >>> (y.toInt64 &&& 63)
abbrev jlushr (x : Int64) (y : Int32) : Int64 := (x.toUInt64 >>> (y.toInt64.toUInt64 &&& Int64.toUInt64 63)).toInt64
/-! how a caller takes a callee's end -/
def xqi (K : Int32 → xS → Prop) (T : Nat → xS → Prop) : xO → xS → Prop := fun o u => match o with
  | .inl (some (.int r)) => K r u
  | .inr n => T n u
  | _ => False
def xql (K : Int64 → xS → Prop) (T : Nat → xS → Prop) : xO → xS → Prop := fun o u => match o with
  | .inl (some (.long r)) => K r u
  | .inr n => T n u
  | _ => False
def xqv (K : xS → Prop) (T : Nat → xS → Prop) : xO → xS → Prop := fun o u => match o with
  | .inl none => K u
  | .inr n => T n u
  | _ => False
theorem xqi_get {K : Int32 → xS → Prop} {T : Nat → xS → Prop} {v : Option Value} {u : xS} (h : xqi K T (.inl v) u) : ∃ r, v = some (.int r) ∧ K r u := by
  cases v with
  | none => exact h.elim
  | some w => cases w <;> first | exact ⟨_, rfl, h⟩ | exact h.elim
theorem xql_get {K : Int64 → xS → Prop} {T : Nat → xS → Prop} {v : Option Value} {u : xS} (h : xql K T (.inl v) u) : ∃ r, v = some (.long r) ∧ K r u := by
  cases v with
  | none => exact h.elim
  | some w => cases w <;> first | exact ⟨_, rfl, h⟩ | exact h.elim
theorem xqv_get {K : xS → Prop} {T : Nat → xS → Prop} {v : Option Value} {u : xS} (h : xqv K T (.inl v) u) : v = none ∧ K u := by
  cases v with
  | none => exact ⟨rfl, h⟩
  | some w => exact h.elim
section MORE
variable {Γ : xG} {Y : xMth} {d b0 pc : Nat} {lv : List (Nat × Value)} {st : List Value} {σ : xS} {Q : xO → xS → Prop}
theorem xJ.iincC {n : Nat} {z : Int} {x w : Int32} (hd : decode Y.2.1 pc = .ok (.iinc n z, 3)) (hg : xg lv n = some (.int x)) (hw : Int32.ofInt z = w) (hn : n < Y.2.2.1) (k : xJ Γ Y d b0 (pc + 3) (xst lv n (.int (x + w))) st σ Q) : xJ Γ Y d b0 pc lv st σ Q :=
  xJ.iinc hd hg (by rw [hw]) hn k
/-- where a tableswitch goes -/
def xdst (pc : Nat) (dflt lo hi : Int) (offs : Array Int) (x : Int32) : Int := if x.toInt < lo ∨ hi < x.toInt then (pc : Int) + dflt else (pc : Int) + (offs[(x.toInt - lo).toNat]?).getD 0
theorem xdst_out {pc : Nat} {dflt lo hi : Int} {offs : Array Int} {x : Int32} {t : Int} (h : x.toInt < lo ∨ hi < x.toInt) (ht : (pc : Int) + dflt = t) : xdst pc dflt lo hi offs x = t := by
  unfold xdst; rw [if_pos h]; exact ht
theorem xJ.tsw {dflt lo hi : Int} {offs : Array Int} {len : Nat} {x : Int32} (hd : decode Y.2.1 pc = .ok (.tableswitch dflt lo hi offs, len)) (hs : hi - lo < (offs.size : Int)) (k : ∃ t : Nat, xdst pc dflt lo hi offs x = (t : Int) ∧ xJ Γ Y d b0 t lv st σ Q) : xJ Γ Y d b0 pc lv (.int x :: st) σ Q := by
  obtain ⟨t, ht, k⟩ := k
  unfold xdst at ht
  by_cases h : x.toInt < lo ∨ hi < x.toInt
  · rw [if_pos h] at ht
    exact xJ.tableOut hd h ht k
  · rw [if_neg h] at ht
    have h1 : ¬ x.toInt < lo := fun z => h (Or.inl z)
    have h2 : ¬ hi < x.toInt := fun z => h (Or.inr z)
    have h3 : (x.toInt - lo).toNat < offs.size := by omega
    rw [Array.getElem?_eq_getElem h3] at ht
    exact xJ.tableIn hd h1 h2 (Array.getElem?_eq_getElem h3) ht k
def xdsl (pc : Nat) (dflt : Int) (ps : Array (Int × Int)) (x : Int32) : Int := (pc : Int) + Op.lookupswitch.offset ps.toList dflt x.toInt
theorem xJ.lsw {dflt : Int} {ps : Array (Int × Int)} {len : Nat} {x : Int32} (hd : decode Y.2.1 pc = .ok (.lookupswitch dflt ps, len)) (hp : (ps.toList.zip (ps.toList.drop 1)).all (fun (a, next) => a.1 < next.1) = true) (k : ∃ t : Nat, xdsl pc dflt ps x = (t : Int) ∧ xJ Γ Y d b0 t lv st σ Q) : xJ Γ Y d b0 pc lv (.int x :: st) σ Q := by
  obtain ⟨t, ht, k⟩ := k
  exact xJ.lookup hd hp rfl ht k
end MORE
theorem xo {bs : ByteArray} {cd : List (Nat × Instr × Nat)} (ha : (cd.all fun q => decide (decode bs q.1 = .ok q.2)) = true) {i pc : Nat} {ins : Instr} {len : Nat} (h : cd[i]? = some (pc, ins, len)) : decode bs pc = .ok (ins, len) := by
  have h1 := List.all_eq_true.mp ha (pc, ins, len) (List.mem_of_getElem? h)
  have h2 : decode bs (pc, ins, len).1 = .ok (pc, ins, len).2 := of_decide_eq_true h1
  exact h2
