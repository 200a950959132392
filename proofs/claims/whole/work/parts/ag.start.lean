/-! WHAT THE START GIVES -/
def tmS (i : Nat) : Term := match i with
  | 0 => .string "VectorSolver$Text" 29
  | 1 => .string "VectorSolver$Text" 86
  | _ => .string "VectorSolverModel" 7
theorem lt3 {P : Nat → Prop} (h0 : P 0) (h1 : P 1) (h2 : P 2) : ∀ i, i < 3 → P i
  | 0, _ => h0
  | 1, _ => h1
  | 2, _ => h2
  | n + 3, h => absurd h (by omega)
theorem nx_0 : ((flatC (Jvm.Cond.and given_1 narrow_1)).drop 37).take 295 = (List.range 295).map (fun j => Cond.eq (.elem (.field (tmS 0) "java/lang/String" "value" "[B") (.int (Int32.ofNat j))) (.int ((xbyt.getD 0 []).getD j 0))) := by decide +kernel
theorem nx_1 : ((flatC (Jvm.Cond.and given_1 narrow_1)).drop 336).take 18 = (List.range 18).map (fun j => Cond.eq (.elem (.field (tmS 1) "java/lang/String" "value" "[B") (.int (Int32.ofNat j))) (.int ((xbyt.getD 1 []).getD j 0))) := by decide +kernel
theorem nx_2 : ((flatC (Jvm.Cond.and given_1 narrow_1)).drop 902).take 296 = (List.range 296).map (fun j => Cond.eq (.elem (.field (tmS 2) "java/lang/String" "value" "[B") (.int (Int32.ofNat j))) (.int ((xbyt.getD 2 []).getD j 0))) := by decide +kernel
theorem nx_m {n d : Nat} {f : Nat → Cond} (h : ((flatC (Jvm.Cond.and given_1 narrow_1)).drop d).take n = (List.range n).map f) {j : Nat} (hj : j < n) : f j ∈ flatC (Jvm.Cond.and given_1 narrow_1) := by
  have h1 : f j ∈ (List.range n).map f := List.mem_map.mpr ⟨j, List.mem_range.mpr hj, rfl⟩
  rw [← h] at h1
  exact List.mem_of_mem_drop (List.mem_of_mem_take h1)
theorem vk_S.cg {N : Nat} {len : List Nat} {byt : List (List Int32)} {k v k' v' : Nat → Nat} {A : Nat → Prop} {U : State} {H : Heap} (h : vk_S N len byt k v A U H) (e1 : ∀ i, i < N → k' i = k i) (e2 : ∀ i, i < N → v' i = v i) : vk_S N len byt k' v' A U H :=
  ⟨fun i hi => by rw [e1 i hi, e2 i hi]; exact h.1 i hi, fun i j hi hj e => h.2 i j hi hj (by rw [← e1 i hi, ← e1 j hj]; exact e)⟩
theorem xLS.of {C n d : String} {A : Nat → Prop} {s : State} {args : Array Value} (h : (Cond.laysStatic C n d).before args s = true) (hA : ∀ a : Nat, a < s.heap.size → ¬ A a) : xLS C n d A s s.heap := by
  obtain ⟨c, k, i, f, a, cell, hc, hi, hst, ha, hcell, hs, hcls, hlt, hty⟩ := Cond.laysStatic_spec h
  exact ⟨c, k, i, f, a, cell, hc, hi, hst, ha, hcell, hs, hcls, hlt, hty, hA a (Array.getElem?_eq_some_iff.mp hcell).1⟩
theorem rfS {own tx : String} {k : Nat} {args : Array Value} {s : State} (hx : (Cond.exactly (.string own k) "java/lang/String").before args s = true) (hr : (Cond.stringRef own k tx).before args s = true) : ∃ a, vk_R own k tx a s := by
  obtain ⟨a, c, cell, kk, h1, -⟩ := Cond.exactly_spec hx
  exact ⟨a, vk_R.of hr h1⟩
set_option maxRecDepth 20000 in
theorem ro_0 {args : Array Value} {s : State} (b : Nat) (hts : ∀ w ∈ lw_tbl, w.before args s = true) (hs : ∀ w ∈ flatC (Jvm.Cond.and given_1 narrow_1), w.before args s = true) : ∃ ad : Nat → Nat, ad 920 = b ∧ xRo ad (fun q => s.heap.size ≤ q) s s.heap := by
  have hA : ∀ a : Nat, a < s.heap.size → ¬ s.heap.size ≤ a := fun a h z => by omega
  obtain ⟨adK, adV, hS, hev⟩ := vk_Sof (args := args) (s := s) (N := 3) (tm := tmS) (len := xlen) (byt := xbyt) (A := fun q => s.heap.size ≤ q) (by decide)
    (lt3 (hs _ (List.mem_of_getElem? (i := 33) (by decide +kernel))) (hs _ (List.mem_of_getElem? (i := 332) (by decide +kernel))) (hs _ (List.mem_of_getElem? (i := 898) (by decide +kernel))))
    (lt3 (hs _ (List.mem_of_getElem? (i := 34) (by decide +kernel))) (hs _ (List.mem_of_getElem? (i := 333) (by decide +kernel))) (hs _ (List.mem_of_getElem? (i := 899) (by decide +kernel))))
    (lt3 (hs _ (List.mem_of_getElem? (i := 35) (by decide +kernel))) (hs _ (List.mem_of_getElem? (i := 334) (by decide +kernel))) (hs _ (List.mem_of_getElem? (i := 900) (by decide +kernel))))
    (lt3 (hs _ (List.mem_of_getElem? (i := 36) (by decide +kernel))) (hs _ (List.mem_of_getElem? (i := 335) (by decide +kernel))) (hs _ (List.mem_of_getElem? (i := 901) (by decide +kernel))))
    (lt3 (fun j hj => hs _ (nx_m nx_0 hj)) (fun j hj => hs _ (nx_m nx_1 hj)) (fun j hj => hs _ (nx_m nx_2 hj)))
    (fun i j hi hj hij => by
      have h01 := (hs (Cond.not (Cond.eq (tmS 0) (tmS 1))) (List.mem_of_getElem? (i := 354) (by decide +kernel)))
      have h02 := (hs (Cond.not (Cond.eq (tmS 0) (tmS 2))) (List.mem_of_getElem? (i := 1198) (by decide +kernel)))
      have h12 := (hs (Cond.not (Cond.eq (tmS 1) (tmS 2))) (List.mem_of_getElem? (i := 1199) (by decide +kernel)))
      match i, j, hi, hj, hij with
      | 0, 0, _, _, hij => exact absurd rfl hij
      | 0, 1, _, _, _ => exact Or.inl h01
      | 0, 2, _, _, _ => exact Or.inl h02
      | 1, 0, _, _, _ => exact Or.inr h01
      | 1, 1, _, _, hij => exact absurd rfl hij
      | 1, 2, _, _, _ => exact Or.inl h12
      | 2, 0, _, _, _ => exact Or.inr h02
      | 2, 1, _, _, _ => exact Or.inr h12
      | 2, 2, _, _, hij => exact absurd rfl hij
      | i + 3, _, h, _, _ => exact absurd h (by omega)
      | _, j + 3, _, h, _ => exact absurd h (by omega)) hA
  have hsi : ∃ t : Nat, va_Z "jdk/internal/util/Preconditions" "SIOOBE_FORMATTER" "Ljava/util/function/BiFunction;" .null (fun q => s.heap.size ≤ q) s s.heap ∨ va_Z "jdk/internal/util/Preconditions" "SIOOBE_FORMATTER" "Ljava/util/function/BiFunction;" (.ref t) (fun q => s.heap.size ≤ q) s s.heap := by
    rcases va_Zqof (C := "jdk/internal/util/Preconditions") (n := "SIOOBE_FORMATTER") (d := "Ljava/util/function/BiFunction;") (A := fun q => s.heap.size ≤ q) (hts _ (List.mem_append_right _ (List.mem_of_getElem? (i := 68) (by decide +kernel)))) (hts _ (List.mem_append_right _ (List.mem_of_getElem? (i := 5) (by decide +kernel)))) (hs _ (List.mem_of_getElem? (i := 5) (by decide +kernel))) hA with h | ⟨t, h⟩
    · exact ⟨0, Or.inl h⟩
    · exact ⟨t, Or.inr h⟩
  obtain ⟨t, hsi⟩ := hsi
  refine ⟨fun k => if k = 920 then b else if k = 930 then t else if k = 900 then adK 0 else if k = 901 then adK 1 else if k = 902 then adK 2 else if k = 910 then adV 0 else if k = 911 then adV 1 else adV 2, rfl, ?_⟩
  refine ⟨⟨va_Zqof (hts _ (List.mem_append_right _ (List.mem_of_getElem? (i := 665) (by decide +kernel)))) (hts _ (List.mem_append_right _ (List.mem_of_getElem? (i := 15) (by decide +kernel)))) (hs _ (List.mem_of_getElem? (i := 9) (by decide +kernel))) hA, va_Zqof (hts _ (List.mem_append_right _ (List.mem_of_getElem? (i := 667) (by decide +kernel)))) (hts _ (List.mem_append_right _ (List.mem_of_getElem? (i := 15) (by decide +kernel)))) (hs _ (List.mem_of_getElem? (i := 10) (by decide +kernel))) hA⟩, ⟨va_Zof (hts _ (List.mem_append_right _ (List.mem_of_getElem? (i := 52) (by decide +kernel)))) (hts _ (List.mem_append_right _ (List.mem_of_getElem? (i := 3) (by decide +kernel)))) (va_eqt (hs _ (List.mem_of_getElem? (i := 4) (by decide +kernel)))) hA, hsi⟩, hS.cg (lt3 rfl rfl rfl) (lt3 rfl rfl rfl), ?_, ?_, va_Nc.of (hs _ (List.mem_of_getElem? (i := 32) (by decide +kernel))), va_Nc.of (hs _ (List.mem_of_getElem? (i := 21) (by decide +kernel))), ⟨xLS.of (hts _ (List.mem_append_right _ (List.mem_of_getElem? (i := 665) (by decide +kernel)))) hA, xLS.of (hts _ (List.mem_append_right _ (List.mem_of_getElem? (i := 667) (by decide +kernel)))) hA⟩, ?_, ?_⟩
  · exact List.forall_mem_cons.mpr ⟨vk_R.of (hts _ (List.mem_append_right _ (List.mem_of_getElem? (i := 42) (by decide +kernel)))) (hev 0 (by decide)), List.forall_mem_cons.mpr ⟨vk_R.of (hts _ (List.mem_append_right _ (List.mem_of_getElem? (i := 529) (by decide +kernel)))) (hev 1 (by decide)), List.forall_mem_cons.mpr ⟨vk_R.of (hts _ (List.mem_append_right _ (List.mem_of_getElem? (i := 1392) (by decide +kernel)))) (hev 2 (by decide)), List.forall_mem_cons.mpr ⟨vk_R.of (hts _ (List.mem_append_right _ (List.mem_of_getElem? (i := 1602) (by decide +kernel)))) (va_eqR (t := tmS 1) (hs _ (List.mem_of_getElem? (i := 1237) (by decide +kernel))) (hev 1 (by decide))), fun _ h => absurd h List.not_mem_nil⟩⟩⟩⟩
  · exact List.forall_mem_cons.mpr ⟨rfS (hs _ (List.mem_of_getElem? (i := 381) (by decide +kernel))) (hts _ (List.mem_append_right _ (List.mem_of_getElem? (i := 905) (by decide +kernel)))), List.forall_mem_cons.mpr ⟨rfS (hs _ (List.mem_of_getElem? (i := 429) (by decide +kernel))) (hts _ (List.mem_append_right _ (List.mem_of_getElem? (i := 928) (by decide +kernel)))), List.forall_mem_cons.mpr ⟨rfS (hs _ (List.mem_of_getElem? (i := 459) (by decide +kernel))) (hts _ (List.mem_append_right _ (List.mem_of_getElem? (i := 942) (by decide +kernel)))), List.forall_mem_cons.mpr ⟨rfS (hs _ (List.mem_of_getElem? (i := 586) (by decide +kernel))) (hts _ (List.mem_append_right _ (List.mem_of_getElem? (i := 1338) (by decide +kernel)))), List.forall_mem_cons.mpr ⟨rfS (hs _ (List.mem_of_getElem? (i := 652) (by decide +kernel))) (hts _ (List.mem_append_right _ (List.mem_of_getElem? (i := 1354) (by decide +kernel)))), List.forall_mem_cons.mpr ⟨rfS (hs _ (List.mem_of_getElem? (i := 687) (by decide +kernel))) (hts _ (List.mem_append_right _ (List.mem_of_getElem? (i := 1355) (by decide +kernel)))), List.forall_mem_cons.mpr ⟨rfS (hs _ (List.mem_of_getElem? (i := 715) (by decide +kernel))) (hts _ (List.mem_append_right _ (List.mem_of_getElem? (i := 1366) (by decide +kernel)))), List.forall_mem_cons.mpr ⟨rfS (hs _ (List.mem_of_getElem? (i := 751) (by decide +kernel))) (hts _ (List.mem_append_right _ (List.mem_of_getElem? (i := 1367) (by decide +kernel)))), List.forall_mem_cons.mpr ⟨rfS (hs _ (List.mem_of_getElem? (i := 806) (by decide +kernel))) (hts _ (List.mem_append_right _ (List.mem_of_getElem? (i := 1377) (by decide +kernel)))), List.forall_mem_cons.mpr ⟨rfS (hs _ (List.mem_of_getElem? (i := 856) (by decide +kernel))) (hts _ (List.mem_append_right _ (List.mem_of_getElem? (i := 1385) (by decide +kernel)))), List.forall_mem_cons.mpr ⟨rfS (hs _ (List.mem_of_getElem? (i := 554) (by decide +kernel))) (hts _ (List.mem_append_right _ (List.mem_of_getElem? (i := 1337) (by decide +kernel)))), List.forall_mem_cons.mpr ⟨rfS (hs _ (List.mem_of_getElem? (i := 617) (by decide +kernel))) (hts _ (List.mem_append_right _ (List.mem_of_getElem? (i := 1350) (by decide +kernel)))), List.forall_mem_cons.mpr ⟨rfS (hs _ (List.mem_of_getElem? (i := 498) (by decide +kernel))) (hts _ (List.mem_append_right _ (List.mem_of_getElem? (i := 962) (by decide +kernel)))), List.forall_mem_cons.mpr ⟨rfS (hs _ (List.mem_of_getElem? (i := 355) (by decide +kernel))) (hts _ (List.mem_append_right _ (List.mem_of_getElem? (i := 678) (by decide +kernel)))), fun _ h => absurd h List.not_mem_nil⟩⟩⟩⟩⟩⟩⟩⟩⟩⟩⟩⟩⟩⟩
  · exact List.forall_mem_cons.mpr ⟨va_Nw.of rfl (hts _ (List.mem_append_right _ (List.mem_of_getElem? (i := 640) (by decide +kernel)))), List.forall_mem_cons.mpr ⟨va_Nw.of rfl (hts _ (List.mem_append_right _ (List.mem_of_getElem? (i := 921) (by decide +kernel)))), fun _ h => absurd h List.not_mem_nil⟩⟩
  · exact List.forall_mem_cons.mpr ⟨va_Nw.of rfl (hts _ (List.mem_append_right _ (List.mem_of_getElem? (i := 642) (by decide +kernel)))), List.forall_mem_cons.mpr ⟨va_Nw.of rfl (hts _ (List.mem_append_right _ (List.mem_of_getElem? (i := 644) (by decide +kernel)))), List.forall_mem_cons.mpr ⟨va_Nw.of rfl (hts _ (List.mem_append_right _ (List.mem_of_getElem? (i := 646) (by decide +kernel)))), fun _ h => absurd h List.not_mem_nil⟩⟩⟩
theorem ns_0 {args : Array Value} {s : State} (hts : ∀ w ∈ lw_tbl, w.before args s = true) : cNs s := List.forall_mem_cons.mpr ⟨va_Nw.of rfl (hts _ (List.mem_append_right _ (List.mem_of_getElem? (i := 147) (by decide +kernel)))), List.forall_mem_cons.mpr ⟨va_Nw.of rfl (hts _ (List.mem_append_right _ (List.mem_of_getElem? (i := 153) (by decide +kernel)))), fun _ h => absurd h List.not_mem_nil⟩⟩
theorem kn_0 {args : Array Value} {s : State} (hts : ∀ w ∈ lw_tbl, w.before args s = true) : ∃ D : va_G, va_K D xcl [] s := by
  have hgd : ∀ w ∈ lw_gd, w.before args s = true := fun w h => hts w (List.mem_filter.mp h).1
  have h : ∀ ci : Nat, ∃ p : ClassId × (Nat → Nat), ∀ q : vw_C, xcl[ci]? = some q → u_Kn s q.1 q.2.1 q.2.2 p.1 p.2 := by
    intro ci
    match ci with
    | 0 => obtain ⟨c, i, h⟩ := u_known hgd (xcl_in (ci := 0) rfl) (n := 10) (hts _ (List.mem_append_right _ (List.mem_of_getElem? (i := 27) (by decide +kernel)))); exact ⟨(c, i), fun q hq => by cases hq; exact h⟩
    | 1 => obtain ⟨c, i, h⟩ := u_known hgd (xcl_in (ci := 1) rfl) (n := 13) (hts _ (List.mem_append_right _ (List.mem_of_getElem? (i := 35) (by decide +kernel)))); exact ⟨(c, i), fun q hq => by cases hq; exact h⟩
    | 2 => obtain ⟨c, i, h⟩ := u_known hgd (xcl_in (ci := 2) rfl) (n := 12) (hts _ (List.mem_append_right _ (List.mem_of_getElem? (i := 146) (by decide +kernel)))); exact ⟨(c, i), fun q hq => by cases hq; exact h⟩
    | 3 => obtain ⟨c, i, h⟩ := u_known hgd (xcl_in (ci := 3) rfl) (n := 11) (hts _ (List.mem_append_right _ (List.mem_of_getElem? (i := 152) (by decide +kernel)))); exact ⟨(c, i), fun q hq => by cases hq; exact h⟩
    | 4 => obtain ⟨c, i, h⟩ := u_known hgd (xcl_in (ci := 4) rfl) (n := 12) (hts _ (List.mem_append_right _ (List.mem_of_getElem? (i := 296) (by decide +kernel)))); exact ⟨(c, i), fun q hq => by cases hq; exact h⟩
    | 5 => obtain ⟨c, i, h⟩ := u_known hgd (xcl_in (ci := 5) rfl) (n := 18) (hts _ (List.mem_append_right _ (List.mem_of_getElem? (i := 339) (by decide +kernel)))); exact ⟨(c, i), fun q hq => by cases hq; exact h⟩
    | 6 => obtain ⟨c, i, h⟩ := u_known hgd (xcl_in (ci := 6) rfl) (n := 3) (hts _ (List.mem_append_right _ (List.mem_of_getElem? (i := 345) (by decide +kernel)))); exact ⟨(c, i), fun q hq => by cases hq; exact h⟩
    | 7 => obtain ⟨c, i, h⟩ := u_known hgd (xcl_in (ci := 7) rfl) (n := 7) (hts _ (List.mem_append_right _ (List.mem_of_getElem? (i := 363) (by decide +kernel)))); exact ⟨(c, i), fun q hq => by cases hq; exact h⟩
    | 8 => obtain ⟨c, i, h⟩ := u_known hgd (xcl_in (ci := 8) rfl) (n := 5) (hts _ (List.mem_append_right _ (List.mem_of_getElem? (i := 391) (by decide +kernel)))); exact ⟨(c, i), fun q hq => by cases hq; exact h⟩
    | 9 => obtain ⟨c, i, h⟩ := u_known hgd (xcl_in (ci := 9) rfl) (n := 58) (hts _ (List.mem_append_right _ (List.mem_of_getElem? (i := 1387) (by decide +kernel)))); exact ⟨(c, i), fun q hq => by cases hq; exact h⟩
    | n + 10 => exact ⟨(0, fun _ => 0), fun q hq => absurd hq (by simp [xcl])⟩
  obtain ⟨f, hf⟩ := Classical.axiomOfChoice h
  exact ⟨(fun c => (f c).1, fun c => (f c).2), fun c q hq => hf c q hq, fun k q hk => by simp at hk⟩
/-! the first state -/
def st0 (g : Nat → Int32) : xS := (fun k j => match k with
  | 0 => (match j with
    | 5 => 200000000
    | 6 => -1
    | _ => 0)
  | 1 => (match j with
    | 3 => -1
    | _ => 0)
  | 4 => g j
  | 50 => (match j with
    | 5 => -1
    | _ => 0)
  | _ => 0, fun _ _ => 0, 512)
def B0 : Bk := (fun _ _ => 0, fun _ => 0#64)
theorem no0 {a : Nat} {P : Prop} (h : a < 0) : P := absurd h (Nat.not_lt_zero a)
theorem wfB_0 : wfB B0 := ⟨⟨Nat.zero_le _, Nat.zero_le _, rfl, Nat.zero_le _, Nat.zero_le _, Nat.zero_le _, Nat.zero_le _⟩, fun _ h => no0 h, fun _ h => no0 h, fun _ h => no0 h, fun _ h => no0 h, rfl, fun _ h => no0 h⟩
theorem lwB_0 : lwB B0 := fun _ h => no0 h
theorem nmB_0 : nmB B0 := ⟨fun _ h => no0 h, rfl, fun _ h => no0 h, Nat.zero_le _, fun _ h => no0 h⟩
theorem RC_0 (g : Nat → Int32) : RC B0 (st0 g) := by
  refine ⟨⟨rfl, rfl, rfl, rfl, rfl⟩, fun k j hj => ?_, fun _ h => no0 h⟩
  unfold bkB at hj
  split at hj <;> first | exact no0 hj | rfl
theorem RR_0 (g : Nat → Int32) : RR B0 (st0 g) := ⟨⟨rfl, rfl, rfl, rfl, rfl, rfl, rfl⟩, fun _ h => no0 h, fun _ h => no0 h, fun _ h => no0 h, fun _ h => no0 h, fun _ h => no0 h, fun _ h => no0 h⟩
theorem inv_0 {g : Nat → Int32} (hg : ∀ n, n ≤ 47 → g n = nI (rf n)) : INV (st0 g) 512 := by
  refine ⟨B0, 200000000, none, 0, 0, fun _ => 0, 0, ⟨⟨RC_0 g, fun t _ => rfl, fun t _ => rfl, fun a _ => ?_⟩, (show (200000000 : Int32) = nI 200000000 by decide), rfl, rfl, fun x h => by cases h⟩, ⟨RR_0 g, ?_, (show (0 : Int32) = bI false by decide), fun x h => by cases h⟩, ⟨wfB_0, lwB_0, nmB_0, Nat.le_refl _, fun x h => by cases h⟩, ⟨wfB_0, lwB_0, nmB_0, Nat.le_refl _, fun _ h => no0 h, Nat.zero_le _⟩, ⟨rfl, by decide, fun _ h => no0 h, hg⟩, ⟨rfl, by decide, fun _ h => no0 h⟩, rfl, rfl, Nat.le_refl _⟩
  · show (0 : Int64) = jL 0#64
    decide
  · show (0 : Int64) = jL (BitVec.ofNat 64 (200000000 - 200000000))
    decide
