/-! what is thrown is caught -/
theorem xgo_cold {Q : Handler → Pre} {E : CtlPost} {e : Env} {d : Bool} {acts : List Action} {s : State} {f : JFrame} {a : Addr} {x : ExceptionTableEntry} {t : List ExceptionTableEntry} {c : ClassId} {vm' : Vm}
    (hx : covers x f.pc = true) (h0 : x.catchType ≠ 0) (hg : (Jvm.resolveClass f.method.cls x.catchType).Gives e.toSetting s.vm (.ok c) vm') (hr : vm'.classReady f.method.cls x.catchType c) (hsz : vm'.classes.size ≤ s.vm.classes.size) :
    wp (findHandler.go f a (x :: t)) Q E e d acts s ↔ wp (findHandler.go f a (x :: t)) Q E e d acts (s.setVm vm') := by
  obtain ⟨ha, ht⟩ := hg.op (op := VmOp.resolveClass f.method.cls x.catchType) rfl
  simp only [covers] at hx
  obtain ⟨k, hkd, hres⟩ := hr
  have hkd' : (s.setVm vm').vm.classes[f.method.cls]? = some k := hkd
  simp [findHandler.go, hx, h0, ha, ht, hsz, resolveClass_memo e hkd hres, VmOp.dirties, VmOp.acts]
  exact Iff.rfl
/-- a find that warms the tables -/
def xFinds (e : Env) (s : State) (f : JFrame) (a : Addr) (h : Handler) (vm' : Vm) : Prop :=
  ∀ (Q : Handler → Pre) (E : CtlPost) (d : Bool) (acts : List Action), wp (findHandler f a) Q E e d acts s ↔ Q h d acts (s.setVm vm')
theorem xstep_catch {e : Env} {s : State} {a : Addr} {f : JFrame} {r : List Frame} {pc : Nat} {vm' : Vm} (hfind : xFinds e s f a (.found pc) vm') :
    (stepThrowing e s a (.java f :: r)).Is ((s.setVm vm').setFrames (.java { f with pc := pc, stack := [.ref a] } :: r)) [] := by
  simp only [stepThrowing, searchFrame, vmDo]
  generalize hr : Sem.go _ e false [] s = res
  obtain ⟨as, rfl, ha⟩ := Sem.eq_ok_of hr (a := Handler.found pc) (s' := s.setVm vm') (acts' := []) (by simp [hfind _ _ _ _])
  exact ⟨rfl, ha⟩
theorem xcaught {tb : Tables} {e : Env} {s target : State} {g : JFrame} {c : Code} {below : List Frame} {a : Addr} (h : At s g.method c below) {pc : Nat} {vm' : Vm} (hfind : xFinds e ((s.setTop g).pushFrame (.throwing a)) g a (.found pc) vm')
    (hrest : Steps tb e below ((s.setVm vm').setTop { g with pc := pc, stack := [.ref a] }) target) :
    Steps tb e below ((s.setTop g).pushFrame (.throwing a)) target := by
  obtain ⟨hgo, hw⟩ := h.throwing a
  refine Steps.head hgo hw ?_
  rw [stepThread_throwing (frames_entered h.top _), (xstep_catch (s := (s.setTop g).pushFrame (.throwing a)) hfind).1]
  obtain ⟨g₀, hg⟩ := Option.isSome_iff_exists.mp h.top
  obtain ⟨r, hr⟩ := State.topJava?_eq_some.mp hg
  have hr' : (s.setVm vm').frames = .java g₀ :: r := hr
  rw [State.setTop_of_frames _ hr'] at hrest
  rw [State.pushFrame, State.setTop_of_frames _ hr]
  have e1 : (((s.setFrames (.java g :: r)).setFrames (.throwing a :: (s.setFrames (.java g :: r)).frames)).setVm vm').setFrames (.java { g with pc := pc, stack := [.ref a] } :: s.frames.tail) = (s.setVm vm').setFrames (.java { g with pc := pc, stack := [.ref a] } :: r) := by
    rw [hr]
    rw [State.setFrames_setFrames]
    show ((s.setVm vm').setFrames _).setFrames _ = _
    rw [State.setFrames_setFrames]
    rfl
  rw [e1]
  exact hrest
/-- an entry at which an exception stops: its class is the entry's -/
theorem xgo_found {Q : Handler → Pre} {E : CtlPost} {e : Env} {d : Bool} {acts : List Action} {s : State} {f : JFrame} {a : Addr} {x : ExceptionTableEntry} {t : List ExceptionTableEntry} {c : ClassId} {cell : Cell} {vm' : Vm}
    (hx : covers x f.pc = true) (h0 : x.catchType ≠ 0) (hg : (Jvm.resolveClass f.method.cls x.catchType).Gives e.toSetting s.vm (.ok c) vm') (hr : vm'.classReady f.method.cls x.catchType c) (hsz : vm'.classes.size ≤ s.vm.classes.size)
    (hcell : s.heap[a]? = some cell) (hobj : ∀ k, cell.vm ≠ .statics k) (hk : ∃ k, vm'.classes[cell.cls]? = some k) (hcl : ∃ k, vm'.classes[c]? = some k) (hfit : vm'.assignable cell.cls c = true) :
    wp (findHandler.go f a (x :: t)) Q E e d acts s ↔ Q (.found x.handlerPc) d acts (s.setVm vm') := by
  rw [xgo_cold hx h0 hg hr hsz, W.findHandler_go_class (s := s.setVm vm') hx h0 hr hcell hobj hk hcl, if_pos (show (s.setVm vm').vm.assignable cell.cls c = true from hfit)]
/-- an entry that it passes -/
theorem xgo_pass {Q : Handler → Pre} {E : CtlPost} {e : Env} {d : Bool} {acts : List Action} {s : State} {f : JFrame} {a : Addr} {x : ExceptionTableEntry} {t : List ExceptionTableEntry} {c : ClassId} {cell : Cell} {vm' : Vm}
    (hx : covers x f.pc = true) (h0 : x.catchType ≠ 0) (hg : (Jvm.resolveClass f.method.cls x.catchType).Gives e.toSetting s.vm (.ok c) vm') (hr : vm'.classReady f.method.cls x.catchType c) (hsz : vm'.classes.size ≤ s.vm.classes.size)
    (hcell : s.heap[a]? = some cell) (hobj : ∀ k, cell.vm ≠ .statics k) (hk : ∃ k, vm'.classes[cell.cls]? = some k) (hcl : ∃ k, vm'.classes[c]? = some k) (hfit : vm'.assignable cell.cls c = false) :
    wp (findHandler.go f a (x :: t)) Q E e d acts s ↔ wp (findHandler.go f a t) Q E e d acts (s.setVm vm') := by
  rw [xgo_cold hx h0 hg hr hsz, W.findHandler_go_class (s := s.setVm vm') hx h0 hr hcell hobj hk hcl, if_neg (show ¬ (s.setVm vm').vm.assignable cell.cls c = true by rw [show (s.setVm vm').vm = vm' from rfl, hfit]; decide)]
def xdr (lv : List (Nat × Value)) (i : Nat) : List (Nat × Value) := lv.filter (fun q => !(q.1 == i) && !(q.1 + 1 == i && q.2.category == 2))
theorem xLv_dr {γ : xG1} (lv : List (Nat × Value)) (i : Nat) : (xLv (SHP, γ) lv).filter (fun q => !(q.1 == i) && !(q.1 + 1 == i && q.2.category == 2)) = xLv (SHP, γ) (xdr lv i) := by
  unfold xLv xdr
  rw [List.filter_map]
  congr 1
  apply List.filter_congr
  intro q _
  simp [xV_cat]
/-- the exception is laid away in local k; the walk goes on at hq -/
def xAs (Y : xMth) (hp k hq : Nat) : Prop := (∃ n : Fin 4, (n : Nat) = k ∧ decode Y.2.1 hp = .ok (.astore_n n, 1) ∧ hq = hp + 1) ∨ (decode Y.2.1 hp = .ok (.astore k, 2) ∧ hq = hp + 2)
section CATCH
variable {γ : xG1} {Y Y' : xMth} {d b0 pc : Nat} {lv : List (Nat × Value)} {st : List Value} {σ : xS} {Q Q' : xO → xS → Prop}
/-- on at a handler, which lays the exception away -/
theorem xatH {p : Program} {e : Env} {s : State} {m : MethodId} {args : Array Value} {below : List Frame} {meth : Method} {c : Code} {locs : List Loc} {ls : Array Slot} {T' : State} {x : Addr} {hp n hq : Nat} {vm' : Vm}
    (E : xEnt (SHP, γ) Y (xR d b0) p e s m args meth c) (hl : lv_has ls Y.2.2.1 (xLv (SHP, γ) lv)) (hb : xb σ ≤ b0) (X' : Stand p (xLa (SHP, γ)) e (xR d b0) s m args below meth c T' locs ((b0 - xb σ) * xec) ((b0 - xb σ) * xes))
    (hP : va_P (xD (SHP, γ)) xcl (xWd (SHP, γ) σ) T'.heap) (hS : va_S (xA (SHP, γ)) s.heap T'.heap locs) (hwarm : s.WarmedH vm') (hfind : xFinds e ((T'.setTop (F0 m pc ls (st.map (xV (SHP, γ))))).pushFrame (.throwing x)) (F0 m pc ls (st.map (xV (SHP, γ)))) x (.found hp) vm')
    (hd : xAs Y hp n hq) (hn : n < Y.2.2.1) (k : xJ (SHP, γ) Y d b0 hq (xdr lv n) [] σ Q) :
    ∃ t, Steps p.tables e below ((T'.setTop (F0 m pc ls (st.map (xV (SHP, γ))))).pushFrame (.throwing x)) t ∧ xZ (SHP, γ) Q s below b0 t := by
  have K : W p (xLa (SHP, γ)) e (xR d b0) s m args below meth c T'.heap locs ((b0 - xb σ) * xec) ((b0 - xb σ) * xes) (xZ (SHP, γ) Q s below b0) (F0 m hp ls [.ref x]) := by
    have kk : ∀ ls' : Array Slot, lv_has ls' Y.2.2.1 ((n, Value.ref x) :: (xLv (SHP, γ) lv).filter (fun q => !(q.1 == n) && !(q.1 + 1 == n && q.2.category == 2))) → W p (xLa (SHP, γ)) e (xR d b0) s m args below meth c T'.heap locs ((b0 - xb σ) * xec) ((b0 - xb σ) * xes) (xZ (SHP, γ) Q s below b0) (F0 m hq ls' []) := fun ls' hl' => by
      refine k p e s m args below meth c E T'.heap locs ls' hP hS ?_ hb
      rw [← xLv_dr]
      exact ⟨hl'.1, hl'.2.1, fun q hq => hl'.2.2 q (List.mem_cons_of_mem _ hq)⟩
    rcases hd with ⟨n0, rfl, hd, rfl⟩ | ⟨hd, rfl⟩
    · exact lv_astore_n E.x E.b hd rfl hl hn rfl kk
    · exact lv_astore E.x E.b hd hl hn rfl kk
  obtain ⟨t, a1, b1⟩ := K (T'.setVm vm') rfl (X'.noted hwarm)
  exact ⟨t, xcaught (g := F0 m pc ls (st.map (xV (SHP, γ)))) X'.here hfind a1, b1⟩
end CATCH
section CATCH2
variable {γ : xG1} {Y Y' : xMth} {d b0 pc : Nat} {lv : List (Nat × Value)} {st : List Value} {σ : xS} {Q Q' : xO → xS → Prop}
/-- what the tables say of an entry's class: it can be resolved at any state of the walk -/
theorem xentry {p : Program} {e : Env} {s : State} {m : MethodId} {args : Array Value} {below : List Frame} {meth : Method} {c : Code} {locs : List Loc} {T : State} {cells slots ct : Nat} {R : Room} {X : String}
    (E : xEnt (SHP, γ) Y R p e s m args meth c) (X' : Stand p (xLa (SHP, γ)) e R s m args below meth c T locs cells slots) (hw : Cond.classLink Y.1.cls ct X ∈ lw_gd) :
    ∃ (cX : ClassId) (vm' : Vm), s.vm.findClass X = some cX ∧ (Jvm.resolveClass m.cls ct).Gives e.toSetting T.vm (.ok cX) vm' ∧ s.WarmedH vm' ∧ vm'.classReady m.cls ct cX ∧ vm'.classes.size ≤ T.vm.classes.size := by
  have hpl : e.platform.magicAccessors = ({} : Platform).magicAccessors := by rw [X'.admits.platform]
  obtain ⟨cc, hfcc, hcl⟩ := Cond.classLink_spec E.own (E.ts _ hw) e.platform hpl
  obtain ⟨hg₁, hwarm₁, hready₁⟩ := State.classEntry (e := e) X'.warmed hcl
  exact ⟨cc, _, hfcc, hg₁, hwarm₁, hready₁, by rw [Vm.size_noted]; exact Nat.le_refl _⟩
/-- behind a call in a try with one catch, which takes all that is thrown there -/
theorem xcont1 {p : Program} {e : Env} {s : State} {m : MethodId} {args : Array Value} {below : List Frame} {meth : Method} {c : Code} {locs : List Loc} {ls : Array Slot} {S₀ : State} {ce a b hp ct n hq : Nat}
    (E : xEnt (SHP, γ) Y (xR d b0) p e s m args meth c) (hl : lv_has ls Y.2.2.1 (xLv (SHP, γ) lv)) (hb : xb σ ≤ b0)
    (B : xBack (SHP, γ) Q' σ p e (xR d b0) s m args below meth c locs ((b0 - xb σ) * xec) ((b0 - xb σ) * xes) S₀ (F0 m pc ls (st.map (xV (SHP, γ)))) 3)
    (hY : Y.2.2.2.2 = [(a, b, hp, ct)]) (hc : a ≤ pc ∧ pc < b ∧ ct ≠ 0) (hw : Cond.classLink Y.1.cls ct (xexc.getD ce "") ∈ lw_gd) (hd : xAs Y hp n hq) (hn : n < Y.2.2.1)
    (kr : ∀ (v : Option Value) (σ' : xS), Q' (.inl v) σ' → xJ (SHP, γ) Y d b0 (pc + 3) lv (v.toList ++ st) σ' Q)
    (kt : ∀ (n' : Nat) (σ' : xS), Q' (.inr n') σ' → n' = ce ∧ xJ (SHP, γ) Y d b0 hq (xdr lv n) [] σ' Q) :
    ∃ t, Steps p.tables e below S₀ t ∧ xZ (SHP, γ) Q s below b0 t := by
  obtain ⟨out, σ', T', L, hQ, hb', X', hP', hS', hgo⟩ := B
  have ec : (b0 - xb σ) * xec + (xb σ - xb σ') * xec = (b0 - xb σ') * xec := by rw [← Nat.add_mul]; congr 1; omega
  have es : (b0 - xb σ) * xes + (xb σ - xb σ') * xes = (b0 - xb σ') * xes := by rw [← Nat.add_mul]; congr 1; omega
  rw [ec, es] at X'
  cases out with
  | inl v =>
    obtain ⟨t, a, b⟩ := kr v σ' hQ p e s m args below meth c E T'.heap (locs ++ L) ls hP' hS' hl (Nat.le_trans hb' hb) T' rfl X'
    refine ⟨t, ?_, b⟩
    have hm : (v.toList ++ st).map (xV (SHP, γ)) = (v.map (xV (SHP, γ))).toList ++ st.map (xV (SHP, γ)) := by cases v <;> simp
    rw [hm] at a
    exact hgo.trans a
  | inr n' =>
    obtain ⟨x, cell, hgo, g1, g2, g3, k0, g4⟩ := hgo
    obtain ⟨rfl, kk⟩ := kt n' σ' hQ
    obtain ⟨cX, vm', f1, f2, f3, f4, f5⟩ := xentry E X' hw
    have hcls : cell.cls = cX := by
      rw [X'.warmed.alike.findClass, f1] at g3
      exact (Option.some.inj g3).symm
    have htb := E.tb
    rw [hY] at htb
    obtain ⟨y, hy⟩ : ∃ y, c.exceptionTable.toList = [y] := by
      cases ht : c.exceptionTable.toList with
      | nil => rw [ht] at htb; simp at htb
      | cons y r =>
        cases r with
        | nil => exact ⟨y, rfl⟩
        | cons z r => rw [ht] at htb; simp at htb
    rw [hy] at htb
    simp only [List.map_cons, List.map_nil, List.cons.injEq, Prod.mk.injEq, and_true] at htb
    obtain ⟨y1, y2, y3, y4⟩ := htb
    have hkc : ∃ k, vm'.classes[cell.cls]? = some k := by
      obtain ⟨k1, hk1, -⟩ := (X'.warmed.alike.symm.trans f3.alike).2.2 _ _ g4
      exact ⟨k1, hk1⟩
    have hfind : xFinds e ((T'.setTop (F0 m pc ls (st.map (xV (SHP, γ))))).pushFrame (.throwing x)) (F0 m pc ls (st.map (xV (SHP, γ)))) x (.found hp) vm' := by
      intro Q0 E0 d0 acts0
      rw [W.findHandler_eq (meth := meth) (code := c) (by rw [Stand.throwing_vm]; exact X'.method') X'.code, hy]
      rw [← y3]
      exact xgo_found (c := cX) (cell := cell) (by simp [covers, y1, y2, hc.1, hc.2.1]) (by rw [y4]; exact hc.2.2) (by rw [Stand.throwing_vm, y4]; exact f2) (by rw [y4]; exact f4) (by rw [Stand.throwing_vm]; exact f5) (by rw [Stand.throwing_heap]; exact g1) (fun k hk => by rw [g2] at hk; cases hk) hkc (by rw [← hcls]; exact hkc) (by rw [hcls]; exact va_asg _ _)
    obtain ⟨t, a1, b1⟩ := xatH E hl (Nat.le_trans hb' hb) X' hP' hS' f3 hfind hd hn kk
    exact ⟨t, hgo.trans a1, b1⟩
/-- behind a call in a try with two catches -/
theorem xcont2 {p : Program} {e : Env} {s : State} {m : MethodId} {args : Array Value} {below : List Frame} {meth : Method} {c : Code} {locs : List Loc} {ls : Array Slot} {S₀ : State} {ce a b hp ct ce2 hp2 ct2 n n2 hq hq2 : Nat}
    (E : xEnt (SHP, γ) Y (xR d b0) p e s m args meth c) (hl : lv_has ls Y.2.2.1 (xLv (SHP, γ) lv)) (hb : xb σ ≤ b0)
    (B : xBack (SHP, γ) Q' σ p e (xR d b0) s m args below meth c locs ((b0 - xb σ) * xec) ((b0 - xb σ) * xes) S₀ (F0 m pc ls (st.map (xV (SHP, γ)))) 3)
    (hY : Y.2.2.2.2 = [(a, b, hp, ct), (a, b, hp2, ct2)]) (hc : a ≤ pc ∧ pc < b ∧ ct ≠ 0 ∧ ct2 ≠ 0) (hw : Cond.classLink Y.1.cls ct (xexc.getD ce "") ∈ lw_gd) (hw2 : Cond.classLink Y.1.cls ct2 (xexc.getD ce2 "") ∈ lw_gd) (hN : ce = 1 ∧ ce2 = 0) (hd : xAs Y hp n hq) (hn : n < Y.2.2.1) (hd2 : xAs Y hp2 n2 hq2) (hn2 : n2 < Y.2.2.1)
    (kr : ∀ (v : Option Value) (σ' : xS), Q' (.inl v) σ' → xJ (SHP, γ) Y d b0 (pc + 3) lv (v.toList ++ st) σ' Q)
    (kt : ∀ (n' : Nat) (σ' : xS), Q' (.inr n') σ' → (n' = ce ∧ xJ (SHP, γ) Y d b0 hq (xdr lv n) [] σ' Q) ∨ (n' = ce2 ∧ xJ (SHP, γ) Y d b0 hq2 (xdr lv n2) [] σ' Q)) :
    ∃ t, Steps p.tables e below S₀ t ∧ xZ (SHP, γ) Q s below b0 t := by
  obtain ⟨out, σ', T', L, hQ, hb', X', hP', hS', hgo⟩ := B
  have ec : (b0 - xb σ) * xec + (xb σ - xb σ') * xec = (b0 - xb σ') * xec := by rw [← Nat.add_mul]; congr 1; omega
  have es : (b0 - xb σ) * xes + (xb σ - xb σ') * xes = (b0 - xb σ') * xes := by rw [← Nat.add_mul]; congr 1; omega
  rw [ec, es] at X'
  cases out with
  | inl v =>
    obtain ⟨t, a, b⟩ := kr v σ' hQ p e s m args below meth c E T'.heap (locs ++ L) ls hP' hS' hl (Nat.le_trans hb' hb) T' rfl X'
    refine ⟨t, ?_, b⟩
    have hm : (v.toList ++ st).map (xV (SHP, γ)) = (v.map (xV (SHP, γ))).toList ++ st.map (xV (SHP, γ)) := by cases v <;> simp
    rw [hm] at a
    exact hgo.trans a
  | inr n' =>
    obtain ⟨x, cell, hgo, g1, g2, g3, k0, g4⟩ := hgo
    obtain ⟨cX, vm', f1, f2, f3, f4, f5⟩ := xentry E X' hw
    have htb := E.tb
    rw [hY] at htb
    obtain ⟨y, z, hy⟩ : ∃ y z, c.exceptionTable.toList = [y, z] := by
      cases ht : c.exceptionTable.toList with
      | nil => rw [ht] at htb; simp at htb
      | cons y r =>
        cases r with
        | nil => rw [ht] at htb; simp at htb
        | cons z r =>
          cases r with
          | nil => exact ⟨y, z, rfl⟩
          | cons w r => rw [ht] at htb; simp at htb
    rw [hy] at htb
    simp only [List.map_cons, List.map_nil, List.cons.injEq, Prod.mk.injEq, and_true] at htb
    obtain ⟨⟨y1, y2, y3, y4⟩, z1, z2, z3, z4⟩ := htb
    have hkc : ∃ k, vm'.classes[cell.cls]? = some k := by
      obtain ⟨k1, hk1, -⟩ := (X'.warmed.alike.symm.trans f3.alike).2.2 _ _ g4
      exact ⟨k1, hk1⟩
    rcases kt n' σ' hQ with ⟨rfl, kk⟩ | ⟨rfl, kk⟩
    · have hcls : cell.cls = cX := by
        rw [X'.warmed.alike.findClass, f1] at g3
        exact (Option.some.inj g3).symm
      have hfind : xFinds e ((T'.setTop (F0 m pc ls (st.map (xV (SHP, γ))))).pushFrame (.throwing x)) (F0 m pc ls (st.map (xV (SHP, γ)))) x (.found hp) vm' := by
        intro Q0 E0 d0 acts0
        rw [W.findHandler_eq (meth := meth) (code := c) (by rw [Stand.throwing_vm]; exact X'.method') X'.code, hy]
        rw [← y3]
        exact xgo_found (c := cX) (cell := cell) (by simp [covers, y1, y2, hc.1, hc.2.1]) (by rw [y4]; exact hc.2.2.1) (by rw [Stand.throwing_vm, y4]; exact f2) (by rw [y4]; exact f4) (by rw [Stand.throwing_vm]; exact f5) (by rw [Stand.throwing_heap]; exact g1) (fun k hk => by rw [g2] at hk; cases hk) hkc (by rw [← hcls]; exact hkc) (by rw [hcls]; exact va_asg _ _)
      obtain ⟨t, a1, b1⟩ := xatH E hl (Nat.le_trans hb' hb) X' hP' hS' f3 hfind hd hn kk
      exact ⟨t, hgo.trans a1, b1⟩
    · obtain ⟨rfl, rfl⟩ := hN
      obtain ⟨cN, tN, v1, v2, v3⟩ := E.bd.2.2.2.1.2.2.2.2.2.1
      have X2 := X'.noted f3
      obtain ⟨cZ, vm2, u1, u2, u3, u4, u5⟩ := xentry E X2 hw2
      have hcls : cell.cls = cZ := by
        rw [X'.warmed.alike.findClass, u1] at g3
        exact (Option.some.inj g3).symm
      have hN1 : cN = cell.cls := by
        have : s.vm.findClass "java/lang/IllegalStateException" = some cZ := u1
        rw [v1] at this
        rw [hcls]; exact Option.some.inj this
      have hN2 : tN = cX := by
        have : s.vm.findClass "java/lang/IllegalArgumentException" = some cX := f1
        rw [v2] at this
        exact Option.some.inj this
      have hno : vm'.assignable cell.cls cX = false := by
        rw [← hN1, ← hN2, f3.alike.assignable]; exact v3
      have hcX : ∃ k, vm'.classes[cX]? = some k := by
        have h5 := Vm.classAt_of_findClass (vm := vm') (c := cX) (name := "java/lang/IllegalArgumentException") (by rw [f3.alike.findClass]; exact f1)
        exact h5
      have hkc2 : ∃ k, vm2.classes[cell.cls]? = some k := by
        obtain ⟨k1, hk1, -⟩ := (X'.warmed.alike.symm.trans u3.alike).2.2 _ _ g4
        exact ⟨k1, hk1⟩
      have hfind : xFinds e ((T'.setTop (F0 m pc ls (st.map (xV (SHP, γ))))).pushFrame (.throwing x)) (F0 m pc ls (st.map (xV (SHP, γ)))) x (.found hp2) vm2 := by
        intro Q0 E0 d0 acts0
        rw [W.findHandler_eq (meth := meth) (code := c) (by rw [Stand.throwing_vm]; exact X'.method') X'.code, hy]
        rw [← z3]
        rw [xgo_pass (c := cX) (cell := cell) (vm' := vm') (by simp [covers, y1, y2, hc.1, hc.2.1]) (by rw [y4]; exact hc.2.2.1) (by rw [Stand.throwing_vm, y4]; exact f2) (by rw [y4]; exact f4) (by rw [Stand.throwing_vm]; exact f5) (by rw [Stand.throwing_heap]; exact g1) (fun k hk => by rw [g2] at hk; cases hk) hkc hcX hno]
        have h9 := xgo_found (Q := Q0) (E := E0) (d := d0) (acts := acts0) (s := ((T'.setTop (F0 m pc ls (st.map (xV (SHP, γ))))).pushFrame (.throwing x)).setVm vm') (f := F0 m pc ls (st.map (xV (SHP, γ)))) (a := x) (x := z) (t := []) (c := cZ) (cell := cell) (vm' := vm2) (by simp [covers, z1, z2, hc.1, hc.2.1]) (by rw [z4]; exact hc.2.2.2) (by rw [z4]; exact u2) (by rw [z4]; exact u4) u5 (by show ((T'.setTop (F0 m pc ls (st.map (xV (SHP, γ))))).pushFrame (.throwing x)).heap[x]? = some cell; rw [Stand.throwing_heap]; exact g1) (fun k hk => by rw [g2] at hk; cases hk) hkc2 (by rw [← hcls]; exact hkc2) (by rw [hcls]; exact va_asg _ _)
        exact h9
      obtain ⟨t, a1, b1⟩ := xatH E hl (Nat.le_trans hb' hb) X' hP' hS' u3 hfind hd2 hn2 kk
      exact ⟨t, hgo.trans a1, b1⟩
theorem xJ.callV1 {idx n k ci ce a b hp ct na hq : Nat} {rs : List (Option Nat)} {as stk : List Value} (hd : decode Y.2.1 pc = .ok (.invokevirtual idx, 3)) (hl1 : Cond.methodLink Y.1.cls idx Y'.1 ∈ lw_gd) (hy : xYc Y' n) (hin : Cond.instanceMethod Y'.1 ∈ lw_gd) (hse : Cond.selects Y'.1.cls Y'.1 Y'.1 ∈ lw_gd)
    (hk : SHP[k]? = some (.inl (ci, rs))) (hC : (xcl[ci]?).map (fun q => q.1) = some Y'.1.cls) (hM : xM (SHP, γ) Y' d (.ref k :: as) σ Q') (hn : as.length = n) (hs : stk = as.reverse ++ .ref k :: st)
    (hW : (st.map fun v => v.category).sum ≤ 8) (hY : Y.2.2.2.2 = [(a, b, hp, ct)]) (hc : a ≤ pc ∧ pc < b ∧ ct ≠ 0) (hw : Cond.classLink Y.1.cls ct (xexc.getD ce "") ∈ lw_gd) (hdh : xAs Y hp na hq) (hna : na < Y.2.2.1)
    (kr : ∀ (v : Option Value) (σ' : xS), Q' (.inl v) σ' → xJ (SHP, γ) Y (d + 1) b0 (pc + 3) lv (v.toList ++ st) σ' Q) (kt : ∀ (n' : Nat) (σ' : xS), Q' (.inr n') σ' → n' = ce ∧ xJ (SHP, γ) Y (d + 1) b0 hq (xdr lv na) [] σ' Q) :
    xJ (SHP, γ) Y (d + 1) b0 pc lv stk σ Q := by
  subst hs
  intro p e s m args below meth c E H locs ls hP hS hlv hb T hT X
  subst hT
  obtain ⟨hl2, hl3, hl4, hnp, hL⟩ := hy
  obtain ⟨mk, methM, hnamed, hmethM, hstM, habM⟩ := Cond.instanceMethod_spec (E.ts _ hin)
  obtain ⟨methM', cM, hmethM', -, -, -, -, -, -, hsigM⟩ := xCw_spec (E.ts _ hl2) hnamed
  cases hmethM.symm.trans hmethM'
  obtain ⟨c2, r2, m2, q1, q2, q3, q4, kP, hkP, hkPi⟩ := Cond.selects_spec (E.ts _ hse)
  obtain ⟨q, hcq, hcq'⟩ := Option.map_eq_some_iff.mp hC
  obtain ⟨cellB, hcB, hoB, hclB⟩ := va_recv E.bd.1.va hP hcq (xo_at (SHP, γ) σ hk)
  rw [hcq'] at hclB
  cases hclB.symm.trans q1
  cases (State.methodFound?_of_named hnamed hl4).symm.trans q2
  cases hnamed.symm.trans q3
  have hselP : selectMethod e.platform s.vm cellB.cls mk = .method mk := by rw [Launch.admits_selectMethod X.admits]; exact q4
  have hlen : (as.map (xV (SHP, γ))).length = methM.sig.parameters.length := by
    unfold xnp at hnp
    rw [hsigM] at hnp
    rw [List.length_map, hn]
    exact (Option.some.inj hnp).symm
  obtain ⟨vm₁, X₁, hstep₁⟩ := X.invokevirtual E.x E.own (E.ts _ hl1) hnamed hmethM hstM hkP hkPi hl4 (a := xad (SHP, γ) k) (cell := cellB) hcB (fun z h => by rw [h] at hoB; cases hoB) hselP hmethM habM hkP hkPi
    (g := F0 m pc ls ((as.reverse ++ .ref k :: st).map (xV (SHP, γ)))) rfl (argsL := as.map (xV (SHP, γ))) (rest := st.map (xV (SHP, γ))) hlen (by simp [List.map_reverse, xV]) (by rw [E.b]; exact hd)
  have hcat : 2 * (F0 m pc ls (st.map (xV (SHP, γ)))).monitorRoom + ((st.map (xV (SHP, γ))).map fun v => v.category).sum ≤ 8 := lv_room (by simpa [List.map_map, Function.comp_def, xV_cat] using hW)
  have B := xcall (g := F0 m pc ls (st.map (xV (SHP, γ)))) X₁ hM E.bd E.ts hP hS rfl (by rw [E.n]; exact hlv.1) (ig := .invokevirtual idx) (len := 3) (by rw [E.b]; exact hd) hcat (X₁.named hnamed) hl2 hl3 (Nat.le_refl _) (by show _ ≤ 64 * (d + 1); omega)
    (by show (b0 - xb σ) * xec + xb σ * xec ≤ b0 * xec; rw [← Nat.add_mul]; exact Nat.mul_le_mul_right _ (by omega)) (by show (b0 - xb σ) * xes + xb σ * xes ≤ b0 * xes; rw [← Nat.add_mul]; exact Nat.mul_le_mul_right _ (by omega))
  obtain ⟨t, a, b⟩ := xcont1 E hlv hb B hY hc hw hdh hna kr kt
  exact ⟨t, hstep₁ _ fun acts => by rw [doInvoke_state]; exact a, b⟩
theorem xJ.callV2 {idx n k ci ce a b hp ct ce2 hp2 ct2 na nb hq hq2 : Nat} {rs : List (Option Nat)} {as stk : List Value} (hd : decode Y.2.1 pc = .ok (.invokevirtual idx, 3)) (hl1 : Cond.methodLink Y.1.cls idx Y'.1 ∈ lw_gd) (hy : xYc Y' n) (hin : Cond.instanceMethod Y'.1 ∈ lw_gd) (hse : Cond.selects Y'.1.cls Y'.1 Y'.1 ∈ lw_gd)
    (hk : SHP[k]? = some (.inl (ci, rs))) (hC : (xcl[ci]?).map (fun q => q.1) = some Y'.1.cls) (hM : xM (SHP, γ) Y' d (.ref k :: as) σ Q') (hn : as.length = n) (hs : stk = as.reverse ++ .ref k :: st)
    (hW : (st.map fun v => v.category).sum ≤ 8) (hY : Y.2.2.2.2 = [(a, b, hp, ct), (a, b, hp2, ct2)]) (hc : a ≤ pc ∧ pc < b ∧ ct ≠ 0 ∧ ct2 ≠ 0) (hw : Cond.classLink Y.1.cls ct (xexc.getD ce "") ∈ lw_gd) (hw2 : Cond.classLink Y.1.cls ct2 (xexc.getD ce2 "") ∈ lw_gd) (hN : ce = 1 ∧ ce2 = 0) (hdh : xAs Y hp na hq) (hna : na < Y.2.2.1) (hdh2 : xAs Y hp2 nb hq2) (hnb : nb < Y.2.2.1)
    (kr : ∀ (v : Option Value) (σ' : xS), Q' (.inl v) σ' → xJ (SHP, γ) Y (d + 1) b0 (pc + 3) lv (v.toList ++ st) σ' Q) (kt : ∀ (n' : Nat) (σ' : xS), Q' (.inr n') σ' → (n' = ce ∧ xJ (SHP, γ) Y (d + 1) b0 hq (xdr lv na) [] σ' Q) ∨ (n' = ce2 ∧ xJ (SHP, γ) Y (d + 1) b0 hq2 (xdr lv nb) [] σ' Q)) :
    xJ (SHP, γ) Y (d + 1) b0 pc lv stk σ Q := by
  subst hs
  intro p e s m args below meth c E H locs ls hP hS hlv hb T hT X
  subst hT
  obtain ⟨hl2, hl3, hl4, hnp, hL⟩ := hy
  obtain ⟨mk, methM, hnamed, hmethM, hstM, habM⟩ := Cond.instanceMethod_spec (E.ts _ hin)
  obtain ⟨methM', cM, hmethM', -, -, -, -, -, -, hsigM⟩ := xCw_spec (E.ts _ hl2) hnamed
  cases hmethM.symm.trans hmethM'
  obtain ⟨c2, r2, m2, q1, q2, q3, q4, kP, hkP, hkPi⟩ := Cond.selects_spec (E.ts _ hse)
  obtain ⟨q, hcq, hcq'⟩ := Option.map_eq_some_iff.mp hC
  obtain ⟨cellB, hcB, hoB, hclB⟩ := va_recv E.bd.1.va hP hcq (xo_at (SHP, γ) σ hk)
  rw [hcq'] at hclB
  cases hclB.symm.trans q1
  cases (State.methodFound?_of_named hnamed hl4).symm.trans q2
  cases hnamed.symm.trans q3
  have hselP : selectMethod e.platform s.vm cellB.cls mk = .method mk := by rw [Launch.admits_selectMethod X.admits]; exact q4
  have hlen : (as.map (xV (SHP, γ))).length = methM.sig.parameters.length := by
    unfold xnp at hnp
    rw [hsigM] at hnp
    rw [List.length_map, hn]
    exact (Option.some.inj hnp).symm
  obtain ⟨vm₁, X₁, hstep₁⟩ := X.invokevirtual E.x E.own (E.ts _ hl1) hnamed hmethM hstM hkP hkPi hl4 (a := xad (SHP, γ) k) (cell := cellB) hcB (fun z h => by rw [h] at hoB; cases hoB) hselP hmethM habM hkP hkPi
    (g := F0 m pc ls ((as.reverse ++ .ref k :: st).map (xV (SHP, γ)))) rfl (argsL := as.map (xV (SHP, γ))) (rest := st.map (xV (SHP, γ))) hlen (by simp [List.map_reverse, xV]) (by rw [E.b]; exact hd)
  have hcat : 2 * (F0 m pc ls (st.map (xV (SHP, γ)))).monitorRoom + ((st.map (xV (SHP, γ))).map fun v => v.category).sum ≤ 8 := lv_room (by simpa [List.map_map, Function.comp_def, xV_cat] using hW)
  have B := xcall (g := F0 m pc ls (st.map (xV (SHP, γ)))) X₁ hM E.bd E.ts hP hS rfl (by rw [E.n]; exact hlv.1) (ig := .invokevirtual idx) (len := 3) (by rw [E.b]; exact hd) hcat (X₁.named hnamed) hl2 hl3 (Nat.le_refl _) (by show _ ≤ 64 * (d + 1); omega)
    (by show (b0 - xb σ) * xec + xb σ * xec ≤ b0 * xec; rw [← Nat.add_mul]; exact Nat.mul_le_mul_right _ (by omega)) (by show (b0 - xb σ) * xes + xb σ * xes ≤ b0 * xes; rw [← Nat.add_mul]; exact Nat.mul_le_mul_right _ (by omega))
  obtain ⟨t, a, b⟩ := xcont2 E hlv hb B hY hc hw hw2 hN hdh hna hdh2 hnb kr kt
  exact ⟨t, hstep₁ _ fun acts => by rw [doInvoke_state]; exact a, b⟩
end CATCH2
