abbrev Y_VectorSolver_init : xMth := (⟨"VectorSolver", "<init>", "()V"⟩, prog_1_method_1_code, 1, none, [])
def cd_VectorSolver_init : List (Nat × Instr × Nat) := [(0, .aload_n 0, 1), (1, .invokespecial 1, 3), (4, .aload_n 0, 1), (5, .new 7, 3), (8, .dup, 1), (9, .invokespecial 9, 3), (12, .putfield 10, 3), (15, .aload_n 0, 1), (16, .new 16, 3), (19, .dup, 1), (20, .invokespecial 18, 3), (23, .putfield 19, 3), (26, .aload_n 0, 1), (27, .new 23, 3), (30, .dup, 1), (31, .aload_n 0, 1), (32, .getfield 10, 3), (35, .aload_n 0, 1), (36, .getfield 19, 3), (39, .invokespecial 25, 3), (42, .putfield 28, 3), (45, .aload_n 0, 1), (46, .new 32, 3), (49, .dup, 1), (50, .aload_n 0, 1), (51, .getfield 19, 3), (54, .invokespecial 34, 3), (57, .putfield 37, 3), (60, .aload_n 0, 1), (61, .new 41, 3), (64, .dup, 1), (65, .aload_n 0, 1), (66, .getfield 19, 3), (69, .invokespecial 43, 3), (72, .putfield 44, 3), (75, .aload_n 0, 1), (76, .ldc 48, 2), (78, .putfield 49, 3), (81, .aload_n 0, 1), (82, .iconst (-1), 1), (83, .putfield 53, 3), (86, .return_, 1)]
theorem oa_VectorSolver_init : (cd_VectorSolver_init.all fun q => decide (decode prog_1_method_1_code q.1 = .ok q.2)) = true := by decide +kernel
theorem o_VectorSolver_init (i : Nat) {pc : Nat} {ins : Instr} {len : Nat} (h : cd_VectorSolver_init[i]? = some (pc, ins, len)) : decode prog_1_method_1_code pc = .ok (ins, len) := xo oa_VectorSolver_init h
theorem yc_VectorSolver : cYc Y_VectorSolver_init 0 := ⟨⟨rfl, rfl⟩, (lw_i1 (List.mem_of_getElem? (i := 30) rfl)), (lw_i1 (List.mem_of_getElem? (i := 1) rfl)), (lw_i1 (List.mem_of_getElem? (i := 29) rfl)), rfl, by decide, by decide, by decide +kernel⟩
theorem cf_VectorSolver_10 : xFl "VectorSolver" 10 0 0 := ⟨_, _, _, rfl, by decide, rfl, (lw_i2 (List.mem_of_getElem? (i := 231) rfl))⟩
theorem cf_VectorSolver_19 : xFl "VectorSolver" 19 0 1 := ⟨_, _, _, rfl, by decide, rfl, (lw_i2 (List.mem_of_getElem? (i := 232) rfl))⟩
theorem cf_VectorSolver_28 : xFl "VectorSolver" 28 0 2 := ⟨_, _, _, rfl, by decide, rfl, (lw_i2 (List.mem_of_getElem? (i := 233) rfl))⟩
theorem cf_VectorSolver_37 : xFl "VectorSolver" 37 0 3 := ⟨_, _, _, rfl, by decide, rfl, (lw_i2 (List.mem_of_getElem? (i := 234) rfl))⟩
theorem cf_VectorSolver_44 : xFl "VectorSolver" 44 0 4 := ⟨_, _, _, rfl, by decide, rfl, (lw_i2 (List.mem_of_getElem? (i := 235) rfl))⟩
theorem cf_VectorSolver_49 : xFl "VectorSolver" 49 0 5 := ⟨_, _, _, rfl, by decide, rfl, (lw_i2 (List.mem_of_getElem? (i := 236) rfl))⟩
theorem cf_VectorSolver_53 : xFl "VectorSolver" 53 0 6 := ⟨_, _, _, rfl, by decide, rfl, (lw_i2 (List.mem_of_getElem? (i := 237) rfl))⟩
def po_VectorSolver (b : Nat) (w : va_W) (ty : List (ClassId × FieldType)) : Prop := ∃ (a : Nat → Nat) (k : Nat → ClassId) (g : Nat → Int32), (∀ n, n ≤ 47 → g n = nI (rf n)) ∧ w = [(b, .inr (0, [.ref (a 0), .ref (a 4), .ref (a 23), .ref (a 29), .ref (a 47), .int 200000000, .int (-1), .int 0, .int 0, .int 0])), ((a 4), .inr (2, [.ref (a 5), .ref (a 15), .ref (a 16), .ref (a 17), .int 0, .ref (a 18), .ref (a 19), .ref (a 20), .int 0, .ref (a 21), .int 0, .ref (a 22)])), ((a 0), .inr (1, [.ref (a 1), .int 0, .int 0, .int (-1), .ref (a 2), .int 0, .int 0, .int 0, .ref (a 3), .int 0, .int 0, .int 0, .int 0])), ((a 1), .inl ((k 0), 65536, .inl fun _ => 0)), ((a 2), .inl ((k 1), 65537, .inr (.inl fun _ => 0))), ((a 3), .inl ((k 2), 48, .inl g)), ((a 5), .inr (3, [.ref (a 6), .ref (a 7), .ref (a 8), .ref (a 9), .ref (a 10), .ref (a 11), .ref (a 12), .ref (a 13), .ref (a 14), .int 0, .int 0])), ((a 6), .inl ((k 3), 2000, .inl fun _ => 0)), ((a 7), .inl ((k 4), 2000, .inl fun _ => 0)), ((a 8), .inl ((k 5), 2001, .inl fun _ => 0)), ((a 9), .inl ((k 6), 80000, .inl fun _ => 0)), ((a 10), .inl ((k 7), 2000, .inl fun _ => 0)), ((a 11), .inl ((k 8), 2000, .inr (.inl fun _ => 0))), ((a 12), .inl ((k 9), 2000, .inr (.inl fun _ => 0))), ((a 13), .inl ((k 10), 2000, .inl fun _ => 0)), ((a 14), .inl ((k 11), 2000, .inl fun _ => 0)), ((a 15), .inl ((k 12), 65536, .inl fun _ => 0)), ((a 16), .inl ((k 13), 501, .inl fun _ => 0)), ((a 17), .inl ((k 14), 500, .inl fun _ => 0)), ((a 18), .inl ((k 15), 500, .inl fun _ => 0)), ((a 19), .inl ((k 16), 500, .inl fun _ => 0)), ((a 20), .inl ((k 17), 501, .inl fun _ => 0)), ((a 21), .inl ((k 18), 500, .inl fun _ => 0)), ((a 22), .inl ((k 19), 5, .inl fun _ => 0)), ((a 23), .inr (4, [.ref (a 0), .ref (a 4), .ref ((a 5)), .ref (a 24), .int 0, .ref (a 25), .ref (a 26), .ref (a 27), .ref (a 28), .int 0, .int 0, .int 0])), ((a 24), .inl ((k 20), 2400, .inl fun _ => 0)), ((a 25), .inl ((k 21), 16, .inl fun _ => 0)), ((a 26), .inl ((k 22), 16, .inl fun _ => 0)), ((a 27), .inl ((k 23), 16, .inl fun _ => 0)), ((a 28), .inl ((k 24), 16, .inl fun _ => 0)), ((a 29), .inr (5, [.ref (a 4), .ref ((a 5)), .ref (a 39), .ref (a 41), .ref (a 43), .ref (a 30), .ref (a 31), .int 0, .ref (a 32), .ref (a 33), .ref (a 34), .ref (a 35), .ref (a 36), .ref (a 37), .ref (a 38), .int 0, .int 0, .int 0])), ((a 30), .inl ((k 25), 2000, .inl fun _ => 0)), ((a 31), .inl ((k 26), 501, .inl fun _ => 0)), ((a 32), .inl ((k 27), 2000, .inl fun _ => 0)), ((a 33), .inl ((k 28), 501, .inl fun _ => 0)), ((a 34), .inl ((k 29), 501, .inl fun _ => 0)), ((a 35), .inl ((k 30), 2000, .inl fun _ => 0)), ((a 36), .inl ((k 31), 2000, .inl fun _ => 0)), ((a 37), .inl ((k 32), 16, .inl fun _ => 0)), ((a 38), .inl ((k 33), 16, .inl fun _ => 0)), ((a 39), .inr (6, [.ref (a 4), .ref ((a 5)), .ref (a 40)])), ((a 40), .inl ((k 34), 2000, .inr (.inl fun _ => 0))), ((a 41), .inr (7, [.ref (a 4), .ref ((a 5)), .ref (a 40), .ref (a 30), .ref (a 42), .int 0, .int 0])), ((a 42), .inl ((k 35), 2000, .inr (.inl fun _ => 0))), ((a 43), .inr (8, [.ref (a 4), .ref ((a 5)), .ref (a 44), .ref (a 45), .ref (a 46)])), ((a 44), .inl ((k 36), 2000, .inr (.inl fun _ => 0))), ((a 45), .inl ((k 37), 2000, .inr (.inl fun _ => 0))), ((a 46), .inl ((k 38), 2000, .inl fun _ => 0)), ((a 47), .inr (6, [.ref (a 4), .ref ((a 5)), .ref (a 48)])), ((a 48), .inl ((k 39), 2000, .inr (.inl fun _ => 0)))] ∧ ty = [((k 0), .byte), ((k 1), .long), ((k 2), .int), ((k 3), .int), ((k 4), .int), ((k 5), .int), ((k 6), .int), ((k 7), .int), ((k 8), .long), ((k 9), .long), ((k 10), .int), ((k 11), .boolean), ((k 12), .byte), ((k 13), .int), ((k 14), .int), ((k 15), .int), ((k 16), .int), ((k 17), .int), ((k 18), .int), ((k 19), .int), ((k 20), .int), ((k 21), .int), ((k 22), .int), ((k 23), .int), ((k 24), .boolean), ((k 25), .int), ((k 26), .int), ((k 27), .int), ((k 28), .int), ((k 29), .int), ((k 30), .byte), ((k 31), .byte), ((k 32), .int), ((k 33), .int), ((k 34), .long), ((k 35), .long), ((k 36), .long), ((k 37), .long), ((k 38), .byte), ((k 39), .long)]
abbrev rm_VectorSolver : Room := { frames := 5, cells := 21900, slots := 319751, locals := 278 }
set_option maxRecDepth 20000 in
theorem cm_VectorSolver (γ : xG1) (b : Nat) : cM γ Y_VectorSolver_init rm_VectorSolver (.ref b :: []) [(b, .inr (0, dfl 0))] (po_VectorSolver b) := by
  refine cM.of rfl rfl rfl (Nat.le_of_ble_eq_true rfl) (fun p e s m args below meth c A Z _ E _ hret => ?_)
  show cJ _ _ _ _ _ _ _ _ _ _ _ _ _ 0 [(0, .ref b)] [] _ _ _ _
  refine cJ.aload E (o_VectorSolver_init 0 rfl) 0 rfl ?_
  refine cJ.objInit E (o_VectorSolver_init 1 rfl) (lw_i1 (List.mem_of_getElem? (i := 31) rfl)) (lw_i1 (List.mem_of_getElem? (i := 32) rfl)) (lw_i1 (List.mem_of_getElem? (i := 33) rfl)) (by decide) (by decide) ?_
  refine cJ.aload E (o_VectorSolver_init 2 rfl) 0 rfl ?_
  refine cJ.new0 (ci := 1) E (o_VectorSolver_init 3 rfl) rfl (lw_i1 (List.mem_of_getElem? (i := 34) rfl)) (lw_i1 (List.mem_of_getElem? (i := 35) rfl)) (lw_i1 (List.mem_of_getElem? (i := 2) rfl)) (by decide) (by decide) (fun q0 => ?_)
  refine cJ.dup E (o_VectorSolver_init 4 rfl) rfl ?_
  refine cJ.call0 (W0 := _) E (cm_Text γ q0) yc_Text (o_VectorSolver_init 5 rfl) (.inl (lw_i1 (List.mem_of_getElem? (i := 36) rfl))) rfl ⟨by decide, by decide⟩ (by decide) (by decide) rfl (Nat.le_of_ble_eq_true rfl) (fun w1 ty1 hp => ?_)
  obtain ⟨a1, c1, g1, hg, rfl, rfl⟩ := hp
  refine cJ.put0 E (o_VectorSolver_init 6 rfl) cf_VectorSolver_10 rfl rfl rfl rfl rfl (by simp only [List.length_set, len_dfl]; decide) ?_
  refine cJ.aload E (o_VectorSolver_init 7 rfl) 0 rfl ?_
  refine cJ.new0 (ci := 2) E (o_VectorSolver_init 8 rfl) rfl (lw_i1 (List.mem_of_getElem? (i := 145) rfl)) (lw_i1 (List.mem_of_getElem? (i := 146) rfl)) (lw_i1 (List.mem_of_getElem? (i := 7) rfl)) (by decide) (by decide) (fun q4 => ?_)
  refine cJ.dup E (o_VectorSolver_init 9 rfl) rfl ?_
  refine cJ.call0 (W0 := _) E (cm_Book γ q4) yc_Book (o_VectorSolver_init 10 rfl) (.inr ⟨_, List.mem_of_getElem? (i := 0) rfl⟩) rfl ⟨by decide, by decide⟩ (by decide) (by decide) rfl (Nat.le_of_ble_eq_true rfl) (fun w1 ty1 hp => ?_)
  obtain ⟨a2, c2, rfl, rfl⟩ := hp
  refine cJ.permP (List.Perm.cons _ List.perm_middle) ?_
  refine cJ.put0 E (o_VectorSolver_init 11 rfl) cf_VectorSolver_19 rfl rfl rfl rfl rfl (by simp only [List.length_set, len_dfl]; decide) ?_
  refine cJ.aload E (o_VectorSolver_init 12 rfl) 0 rfl ?_
  refine cJ.new1 (ci := 4) E (o_VectorSolver_init 13 rfl) rfl (lw_i2 (List.mem_of_getElem? (i := 55) rfl)) (lw_i2 (List.mem_of_getElem? (i := 56) rfl)) (lw_i1 (List.mem_of_getElem? (i := 9) rfl)) (by decide) (by decide) (fun q23 => ?_)
  refine cJ.dup E (o_VectorSolver_init 14 rfl) rfl ?_
  refine cJ.aload E (o_VectorSolver_init 15 rfl) 0 rfl ?_
  refine cJ.get E (o_VectorSolver_init 16 rfl) cf_VectorSolver_10 0 rfl rfl ?_
  refine cJ.aload E (o_VectorSolver_init 17 rfl) 0 rfl ?_
  refine cJ.get E (o_VectorSolver_init 18 rfl) cf_VectorSolver_19 0 rfl rfl ?_
  refine cJ.call1 (W0 := _) E (cm_Reader γ q23 q0 q4 _ _ rfl) yc_Reader (o_VectorSolver_init 19 rfl) (.inl (lw_i2 (List.mem_of_getElem? (i := 57) rfl))) rfl ⟨by decide, by decide⟩ (by decide) (by decide) rfl (Nat.le_of_ble_eq_true rfl) (fun w1 ty1 hp => ?_)
  obtain ⟨a3, c3, rfl, rfl⟩ := hp
  refine ⟨_, _, rfl, ?_⟩
  refine cJ.put0 E (o_VectorSolver_init 20 rfl) cf_VectorSolver_28 rfl rfl rfl rfl rfl (by simp only [List.length_set, len_dfl]; decide) ?_
  refine cJ.aload E (o_VectorSolver_init 21 rfl) 0 rfl ?_
  refine cJ.new1 (ci := 5) E (o_VectorSolver_init 22 rfl) rfl (lw_i2 (List.mem_of_getElem? (i := 98) rfl)) (lw_i2 (List.mem_of_getElem? (i := 99) rfl)) (lw_i1 (List.mem_of_getElem? (i := 10) rfl)) (by decide) (by decide) (fun q29 => ?_)
  refine cJ.dup E (o_VectorSolver_init 23 rfl) rfl ?_
  refine cJ.aload E (o_VectorSolver_init 24 rfl) 0 rfl ?_
  refine cJ.get E (o_VectorSolver_init 25 rfl) cf_VectorSolver_19 0 rfl rfl ?_
  refine cJ.call1 (W0 := _) E (cm_Search γ q29 q4 _ _ rfl) yc_Search (o_VectorSolver_init 26 rfl) (.inl (lw_i2 (List.mem_of_getElem? (i := 100) rfl))) rfl ⟨by decide, by decide⟩ (by decide) (by decide) rfl (Nat.le_of_ble_eq_true rfl) (fun w1 ty1 hp => ?_)
  obtain ⟨a4, c4, rfl, rfl⟩ := hp
  refine ⟨_, _, rfl, ?_⟩
  refine cJ.put0 E (o_VectorSolver_init 27 rfl) cf_VectorSolver_37 rfl rfl rfl rfl rfl (by simp only [List.length_set, len_dfl]; decide) ?_
  refine cJ.aload E (o_VectorSolver_init 28 rfl) 0 rfl ?_
  refine cJ.new1 (ci := 6) E (o_VectorSolver_init 29 rfl) rfl (lw_i2 (List.mem_of_getElem? (i := 228) rfl)) (lw_i2 (List.mem_of_getElem? (i := 105) rfl)) (lw_i1 (List.mem_of_getElem? (i := 11) rfl)) (by decide) (by decide) (fun q47 => ?_)
  refine cJ.dup E (o_VectorSolver_init 30 rfl) rfl ?_
  refine cJ.aload E (o_VectorSolver_init 31 rfl) 0 rfl ?_
  refine cJ.get E (o_VectorSolver_init 32 rfl) cf_VectorSolver_19 0 rfl rfl ?_
  refine cJ.call1 (W0 := _) E (cm_Evaluator γ q47 q4 _ _ rfl) yc_Evaluator (o_VectorSolver_init 33 rfl) (.inl (lw_i2 (List.mem_of_getElem? (i := 229) rfl))) rfl ⟨by decide, by decide⟩ (by decide) (by decide) rfl (Nat.le_of_ble_eq_true rfl) (fun w1 ty1 hp => ?_)
  obtain ⟨a5, c5, rfl, rfl⟩ := hp
  refine ⟨_, _, rfl, ?_⟩
  refine cJ.put0 E (o_VectorSolver_init 34 rfl) cf_VectorSolver_44 rfl rfl rfl rfl rfl (by simp only [List.length_set, len_dfl]; decide) ?_
  refine cJ.aload E (o_VectorSolver_init 35 rfl) 0 rfl ?_
  refine cJ.ldc (v := 200000000) E (o_VectorSolver_init 36 rfl) (lw_i2 (List.mem_of_getElem? (i := 230) rfl)) ?_
  refine cJ.putI E (o_VectorSolver_init 37 rfl) cf_VectorSolver_49 rfl rfl rfl (by simp only [List.length_set, len_dfl]; decide) ?_
  refine cJ.aload E (o_VectorSolver_init 38 rfl) 0 rfl ?_
  refine cJ.iconst (v := (-1)) E (o_VectorSolver_init 39 rfl) (by decide) ?_
  refine cJ.putI E (o_VectorSolver_init 40 rfl) cf_VectorSolver_53 rfl rfl rfl (by simp only [List.length_set, len_dfl]; decide) ?_
  refine hret _ _ _ _ (o_VectorSolver_init 41 rfl) ?_
  exact ⟨fun i => [q0, (a1 0), (a1 1), (a1 2), q4, (a2 0), (a2 1), (a2 2), (a2 3), (a2 4), (a2 5), (a2 6), (a2 7), (a2 8), (a2 9), (a2 10), (a2 11), (a2 12), (a2 13), (a2 14), (a2 15), (a2 16), (a2 17), q23, (a3 0), (a3 1), (a3 2), (a3 3), (a3 4), q29, (a4 0), (a4 1), (a4 2), (a4 3), (a4 4), (a4 5), (a4 6), (a4 7), (a4 8), (a4 9), (a4 10), (a4 11), (a4 12), (a4 13), (a4 14), (a4 15), (a4 16), q47, (a5 0)].getD i 0, fun i => ([(c1 0), (c1 1), (c1 2), (c2 0), (c2 1), (c2 2), (c2 3), (c2 4), (c2 5), (c2 6), (c2 7), (c2 8), (c2 9), (c2 10), (c2 11), (c2 12), (c2 13), (c2 14), (c2 15), (c2 16), (c3 0), (c3 1), (c3 2), (c3 3), (c3 4), (c4 0), (c4 1), (c4 2), (c4 3), (c4 4), (c4 5), (c4 6), (c4 7), (c4 8), (c4 9), (c4 10), (c4 11), (c4 12), (c4 13), (c5 0)] : List ClassId).getD i 0, _, hg, rfl, rfl⟩
