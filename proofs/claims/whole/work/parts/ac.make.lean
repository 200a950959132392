abbrev Y_Terms_init : xMth := (⟨"VectorSolver$Terms", "<init>", "()V"⟩, prog_9_method_1_code, 1, none, [])
def cd_Terms_init : List (Nat × Instr × Nat) := [(0, .aload_n 0, 1), (1, .invokespecial 3, 3), (4, .aload_n 0, 1), (5, .sipush 2000, 3), (8, .newarray .int, 2), (10, .putfield 9, 3), (13, .aload_n 0, 1), (14, .sipush 2000, 3), (17, .newarray .int, 2), (19, .putfield 15, 3), (22, .aload_n 0, 1), (23, .sipush 2001, 3), (26, .newarray .int, 2), (28, .putfield 18, 3), (31, .aload_n 0, 1), (32, .ldc 21, 2), (34, .newarray .int, 2), (36, .putfield 22, 3), (39, .aload_n 0, 1), (40, .sipush 2000, 3), (43, .newarray .int, 2), (45, .putfield 25, 3), (48, .aload_n 0, 1), (49, .sipush 2000, 3), (52, .newarray .long, 2), (54, .putfield 28, 3), (57, .aload_n 0, 1), (58, .sipush 2000, 3), (61, .newarray .long, 2), (63, .putfield 32, 3), (66, .aload_n 0, 1), (67, .sipush 2000, 3), (70, .newarray .int, 2), (72, .putfield 35, 3), (75, .aload_n 0, 1), (76, .sipush 2000, 3), (79, .newarray .boolean, 2), (81, .putfield 38, 3), (84, .return_, 1)]
theorem oa_Terms_init : (cd_Terms_init.all fun q => decide (decode prog_9_method_1_code q.1 = .ok q.2)) = true := by decide +kernel
theorem o_Terms_init (i : Nat) {pc : Nat} {ins : Instr} {len : Nat} (h : cd_Terms_init[i]? = some (pc, ins, len)) : decode prog_9_method_1_code pc = .ok (ins, len) := xo oa_Terms_init h
theorem yc_Terms : cYc Y_Terms_init 0 := ⟨⟨rfl, rfl⟩, (lw_i1 (List.mem_of_getElem? (i := 155) rfl)), (lw_i1 (List.mem_of_getElem? (i := 8) rfl)), (lw_i1 (List.mem_of_getElem? (i := 154) rfl)), rfl, by decide, by decide, by decide +kernel⟩
theorem cf_Terms_9 : xFl "VectorSolver$Terms" 9 3 0 := ⟨_, _, _, rfl, by decide, rfl, (lw_i1 (List.mem_of_getElem? (i := 158) rfl))⟩
theorem cf_Terms_15 : xFl "VectorSolver$Terms" 15 3 1 := ⟨_, _, _, rfl, by decide, rfl, (lw_i1 (List.mem_of_getElem? (i := 164) rfl))⟩
theorem cf_Terms_18 : xFl "VectorSolver$Terms" 18 3 2 := ⟨_, _, _, rfl, by decide, rfl, (lw_i1 (List.mem_of_getElem? (i := 171) rfl))⟩
theorem cf_Terms_22 : xFl "VectorSolver$Terms" 22 3 3 := ⟨_, _, _, rfl, by decide, rfl, (lw_i1 (List.mem_of_getElem? (i := 176) rfl))⟩
theorem cf_Terms_25 : xFl "VectorSolver$Terms" 25 3 4 := ⟨_, _, _, rfl, by decide, rfl, (lw_i1 (List.mem_of_getElem? (i := 181) rfl))⟩
theorem cf_Terms_28 : xFl "VectorSolver$Terms" 28 3 5 := ⟨_, _, _, rfl, by decide, rfl, (lw_i1 (List.mem_of_getElem? (i := 188) rfl))⟩
theorem cf_Terms_32 : xFl "VectorSolver$Terms" 32 3 6 := ⟨_, _, _, rfl, by decide, rfl, (lw_i1 (List.mem_of_getElem? (i := 191) rfl))⟩
theorem cf_Terms_35 : xFl "VectorSolver$Terms" 35 3 7 := ⟨_, _, _, rfl, by decide, rfl, (lw_i1 (List.mem_of_getElem? (i := 196) rfl))⟩
theorem cf_Terms_38 : xFl "VectorSolver$Terms" 38 3 8 := ⟨_, _, _, rfl, by decide, rfl, (lw_i1 (List.mem_of_getElem? (i := 200) rfl))⟩
def po_Terms (b : Nat) (w : va_W) (ty : List (ClassId × FieldType)) : Prop := ∃ (a : Nat → Nat) (k : Nat → ClassId), w = [(b, .inr (3, [.ref (a 0), .ref (a 1), .ref (a 2), .ref (a 3), .ref (a 4), .ref (a 5), .ref (a 6), .ref (a 7), .ref (a 8), .int 0, .int 0])), ((a 0), .inl ((k 0), 2000, .inl fun _ => 0)), ((a 1), .inl ((k 1), 2000, .inl fun _ => 0)), ((a 2), .inl ((k 2), 2001, .inl fun _ => 0)), ((a 3), .inl ((k 3), 80000, .inl fun _ => 0)), ((a 4), .inl ((k 4), 2000, .inl fun _ => 0)), ((a 5), .inl ((k 5), 2000, .inr (.inl fun _ => 0))), ((a 6), .inl ((k 6), 2000, .inr (.inl fun _ => 0))), ((a 7), .inl ((k 7), 2000, .inl fun _ => 0)), ((a 8), .inl ((k 8), 2000, .inl fun _ => 0))] ∧ ty = [((k 0), .int), ((k 1), .int), ((k 2), .int), ((k 3), .int), ((k 4), .int), ((k 5), .long), ((k 6), .long), ((k 7), .int), ((k 8), .boolean)]
abbrev rm_Terms : Room := { frames := 1, cells := 9, slots := 96001, locals := 12 }
set_option maxRecDepth 20000 in
theorem cm_Terms (γ : xG1) (b : Nat) : cM γ Y_Terms_init rm_Terms (.ref b :: []) [(b, .inr (3, dfl 3))] (po_Terms b) := by
  refine cM.of rfl rfl rfl (Nat.le_of_ble_eq_true rfl) (fun p e s m args below meth c A Z _ E _ hret => ?_)
  show cJ _ _ _ _ _ _ _ _ _ _ _ _ _ 0 [(0, .ref b)] [] _ _ _ _
  refine cJ.aload E (o_Terms_init 0 rfl) 0 rfl ?_
  refine cJ.objInit E (o_Terms_init 1 rfl) (lw_i1 (List.mem_of_getElem? (i := 156) rfl)) (lw_i1 (List.mem_of_getElem? (i := 32) rfl)) (lw_i1 (List.mem_of_getElem? (i := 33) rfl)) (by decide) (by decide) ?_
  refine cJ.aload E (o_Terms_init 2 rfl) 0 rfl ?_
  refine cJ.sipush (v := 2000) E (o_Terms_init 3 rfl) (by decide) ?_
  refine cJ.arr (a0 := (2000, .inl fun _ => 0)) (N := 2000) (ty := .int) E (o_Terms_init 4 rfl) rfl (lw_i1 (List.mem_of_getElem? (i := 144) rfl)) (fun _ => rfl) (by decide) (by decide) (by decide) (by decide) (by decide) (o_Terms_init 5 rfl) cf_Terms_9 rfl rfl rfl rfl (by simp only [List.length_set, len_dfl]; decide) (fun q0 k0 => ?_)
  refine cJ.aload E (o_Terms_init 6 rfl) 0 rfl ?_
  refine cJ.sipush (v := 2000) E (o_Terms_init 7 rfl) (by decide) ?_
  refine cJ.arr (a0 := (2000, .inl fun _ => 0)) (N := 2000) (ty := .int) E (o_Terms_init 8 rfl) rfl (lw_i1 (List.mem_of_getElem? (i := 144) rfl)) (fun _ => rfl) (by decide) (by decide) (by decide) (by decide) (by decide) (o_Terms_init 9 rfl) cf_Terms_15 rfl rfl rfl rfl (by simp only [List.length_set, len_dfl]; decide) (fun q1 k1 => ?_)
  refine cJ.aload E (o_Terms_init 10 rfl) 0 rfl ?_
  refine cJ.sipush (v := 2001) E (o_Terms_init 11 rfl) (by decide) ?_
  refine cJ.arr (a0 := (2001, .inl fun _ => 0)) (N := 2001) (ty := .int) E (o_Terms_init 12 rfl) rfl (lw_i1 (List.mem_of_getElem? (i := 144) rfl)) (fun _ => rfl) (by decide) (by decide) (by decide) (by decide) (by decide) (o_Terms_init 13 rfl) cf_Terms_18 rfl rfl rfl rfl (by simp only [List.length_set, len_dfl]; decide) (fun q2 k2 => ?_)
  refine cJ.aload E (o_Terms_init 14 rfl) 0 rfl ?_
  refine cJ.ldc (v := 80000) E (o_Terms_init 15 rfl) (lw_i1 (List.mem_of_getElem? (i := 157) rfl)) ?_
  refine cJ.arr (a0 := (80000, .inl fun _ => 0)) (N := 80000) (ty := .int) E (o_Terms_init 16 rfl) rfl (lw_i1 (List.mem_of_getElem? (i := 144) rfl)) (fun _ => rfl) (by decide) (by decide) (by decide) (by decide) (by decide) (o_Terms_init 17 rfl) cf_Terms_22 rfl rfl rfl rfl (by simp only [List.length_set, len_dfl]; decide) (fun q3 k3 => ?_)
  refine cJ.aload E (o_Terms_init 18 rfl) 0 rfl ?_
  refine cJ.sipush (v := 2000) E (o_Terms_init 19 rfl) (by decide) ?_
  refine cJ.arr (a0 := (2000, .inl fun _ => 0)) (N := 2000) (ty := .int) E (o_Terms_init 20 rfl) rfl (lw_i1 (List.mem_of_getElem? (i := 144) rfl)) (fun _ => rfl) (by decide) (by decide) (by decide) (by decide) (by decide) (o_Terms_init 21 rfl) cf_Terms_25 rfl rfl rfl rfl (by simp only [List.length_set, len_dfl]; decide) (fun q4 k4 => ?_)
  refine cJ.aload E (o_Terms_init 22 rfl) 0 rfl ?_
  refine cJ.sipush (v := 2000) E (o_Terms_init 23 rfl) (by decide) ?_
  refine cJ.arr (a0 := (2000, .inr (.inl fun _ => 0))) (N := 2000) (ty := .long) E (o_Terms_init 24 rfl) rfl (lw_i1 (List.mem_of_getElem? (i := 143) rfl)) (fun _ => rfl) (by decide) (by decide) (by decide) (by decide) (by decide) (o_Terms_init 25 rfl) cf_Terms_28 rfl rfl rfl rfl (by simp only [List.length_set, len_dfl]; decide) (fun q5 k5 => ?_)
  refine cJ.aload E (o_Terms_init 26 rfl) 0 rfl ?_
  refine cJ.sipush (v := 2000) E (o_Terms_init 27 rfl) (by decide) ?_
  refine cJ.arr (a0 := (2000, .inr (.inl fun _ => 0))) (N := 2000) (ty := .long) E (o_Terms_init 28 rfl) rfl (lw_i1 (List.mem_of_getElem? (i := 143) rfl)) (fun _ => rfl) (by decide) (by decide) (by decide) (by decide) (by decide) (o_Terms_init 29 rfl) cf_Terms_32 rfl rfl rfl rfl (by simp only [List.length_set, len_dfl]; decide) (fun q6 k6 => ?_)
  refine cJ.aload E (o_Terms_init 30 rfl) 0 rfl ?_
  refine cJ.sipush (v := 2000) E (o_Terms_init 31 rfl) (by decide) ?_
  refine cJ.arr (a0 := (2000, .inl fun _ => 0)) (N := 2000) (ty := .int) E (o_Terms_init 32 rfl) rfl (lw_i1 (List.mem_of_getElem? (i := 144) rfl)) (fun _ => rfl) (by decide) (by decide) (by decide) (by decide) (by decide) (o_Terms_init 33 rfl) cf_Terms_35 rfl rfl rfl rfl (by simp only [List.length_set, len_dfl]; decide) (fun q7 k7 => ?_)
  refine cJ.aload E (o_Terms_init 34 rfl) 0 rfl ?_
  refine cJ.sipush (v := 2000) E (o_Terms_init 35 rfl) (by decide) ?_
  refine cJ.arr (a0 := (2000, .inl fun _ => 0)) (N := 2000) (ty := .boolean) E (o_Terms_init 36 rfl) rfl (lw_i1 (List.mem_of_getElem? (i := 233) rfl)) (fun _ => rfl) (by decide) (by decide) (by decide) (by decide) (by decide) (o_Terms_init 37 rfl) cf_Terms_38 rfl rfl rfl rfl (by simp only [List.length_set, len_dfl]; decide) (fun q8 k8 => ?_)
  refine hret _ _ _ _ (o_Terms_init 38 rfl) ?_
  exact ⟨fun i => match i with | 0 => q0 | 1 => q1 | 2 => q2 | 3 => q3 | 4 => q4 | 5 => q5 | 6 => q6 | 7 => q7 | _ => q8, fun i => match i with | 0 => k0 | 1 => k1 | 2 => k2 | 3 => k3 | 4 => k4 | 5 => k5 | 6 => k6 | 7 => k7 | _ => k8, rfl, rfl⟩
abbrev Y_Book_init : xMth := (⟨"VectorSolver$Book", "<init>", "()V"⟩, prog_2_method_1_code, 1, none, [])
def cd_Book_init : List (Nat × Instr × Nat) := [(0, .aload_n 0, 1), (1, .invokespecial 3, 3), (4, .aload_n 0, 1), (5, .new 9, 3), (8, .dup, 1), (9, .invokespecial 11, 3), (12, .putfield 12, 3), (15, .aload_n 0, 1), (16, .ldc 18, 2), (18, .newarray .byte, 2), (20, .putfield 19, 3), (23, .aload_n 0, 1), (24, .sipush 501, 3), (27, .newarray .int, 2), (29, .putfield 23, 3), (32, .aload_n 0, 1), (33, .sipush 500, 3), (36, .newarray .int, 2), (38, .putfield 27, 3), (41, .aload_n 0, 1), (42, .sipush 500, 3), (45, .newarray .int, 2), (47, .putfield 30, 3), (50, .aload_n 0, 1), (51, .sipush 500, 3), (54, .newarray .int, 2), (56, .putfield 33, 3), (59, .aload_n 0, 1), (60, .sipush 501, 3), (63, .newarray .int, 2), (65, .putfield 36, 3), (68, .aload_n 0, 1), (69, .sipush 500, 3), (72, .newarray .int, 2), (74, .putfield 39, 3), (77, .aload_n 0, 1), (78, .iconst 5, 1), (79, .newarray .int, 2), (81, .putfield 42, 3), (84, .return_, 1)]
theorem oa_Book_init : (cd_Book_init.all fun q => decide (decode prog_2_method_1_code q.1 = .ok q.2)) = true := by decide +kernel
theorem o_Book_init (i : Nat) {pc : Nat} {ins : Instr} {len : Nat} (h : cd_Book_init[i]? = some (pc, ins, len)) : decode prog_2_method_1_code pc = .ok (ins, len) := xo oa_Book_init h
theorem yc_Book : cYc Y_Book_init 0 := ⟨⟨rfl, rfl⟩, (lw_i1 (List.mem_of_getElem? (i := 149) rfl)), (lw_i1 (List.mem_of_getElem? (i := 7) rfl)), (lw_i1 (List.mem_of_getElem? (i := 148) rfl)), rfl, by decide, by decide, by decide +kernel⟩
theorem cf_Book_12 : xFl "VectorSolver$Book" 12 2 0 := ⟨_, _, _, rfl, by decide, rfl, (lw_i1 (List.mem_of_getElem? (i := 235) rfl))⟩
theorem cf_Book_19 : xFl "VectorSolver$Book" 19 2 1 := ⟨_, _, _, rfl, by decide, rfl, (lw_i2 (List.mem_of_getElem? (i := 2) rfl))⟩
theorem cf_Book_23 : xFl "VectorSolver$Book" 23 2 2 := ⟨_, _, _, rfl, by decide, rfl, (lw_i2 (List.mem_of_getElem? (i := 3) rfl))⟩
theorem cf_Book_27 : xFl "VectorSolver$Book" 27 2 3 := ⟨_, _, _, rfl, by decide, rfl, (lw_i2 (List.mem_of_getElem? (i := 4) rfl))⟩
theorem cf_Book_30 : xFl "VectorSolver$Book" 30 2 5 := ⟨_, _, _, rfl, by decide, rfl, (lw_i2 (List.mem_of_getElem? (i := 9) rfl))⟩
theorem cf_Book_33 : xFl "VectorSolver$Book" 33 2 6 := ⟨_, _, _, rfl, by decide, rfl, (lw_i2 (List.mem_of_getElem? (i := 13) rfl))⟩
theorem cf_Book_36 : xFl "VectorSolver$Book" 36 2 7 := ⟨_, _, _, rfl, by decide, rfl, (lw_i2 (List.mem_of_getElem? (i := 15) rfl))⟩
theorem cf_Book_39 : xFl "VectorSolver$Book" 39 2 9 := ⟨_, _, _, rfl, by decide, rfl, (lw_i2 (List.mem_of_getElem? (i := 21) rfl))⟩
theorem cf_Book_42 : xFl "VectorSolver$Book" 42 2 11 := ⟨_, _, _, rfl, by decide, rfl, (lw_i2 (List.mem_of_getElem? (i := 29) rfl))⟩
def po_Book (b : Nat) (w : va_W) (ty : List (ClassId × FieldType)) : Prop := ∃ (a : Nat → Nat) (k : Nat → ClassId), w = [(b, .inr (2, [.ref (a 0), .ref (a 10), .ref (a 11), .ref (a 12), .int 0, .ref (a 13), .ref (a 14), .ref (a 15), .int 0, .ref (a 16), .int 0, .ref (a 17)])), ((a 0), .inr (3, [.ref (a 1), .ref (a 2), .ref (a 3), .ref (a 4), .ref (a 5), .ref (a 6), .ref (a 7), .ref (a 8), .ref (a 9), .int 0, .int 0])), ((a 1), .inl ((k 0), 2000, .inl fun _ => 0)), ((a 2), .inl ((k 1), 2000, .inl fun _ => 0)), ((a 3), .inl ((k 2), 2001, .inl fun _ => 0)), ((a 4), .inl ((k 3), 80000, .inl fun _ => 0)), ((a 5), .inl ((k 4), 2000, .inl fun _ => 0)), ((a 6), .inl ((k 5), 2000, .inr (.inl fun _ => 0))), ((a 7), .inl ((k 6), 2000, .inr (.inl fun _ => 0))), ((a 8), .inl ((k 7), 2000, .inl fun _ => 0)), ((a 9), .inl ((k 8), 2000, .inl fun _ => 0)), ((a 10), .inl ((k 9), 65536, .inl fun _ => 0)), ((a 11), .inl ((k 10), 501, .inl fun _ => 0)), ((a 12), .inl ((k 11), 500, .inl fun _ => 0)), ((a 13), .inl ((k 12), 500, .inl fun _ => 0)), ((a 14), .inl ((k 13), 500, .inl fun _ => 0)), ((a 15), .inl ((k 14), 501, .inl fun _ => 0)), ((a 16), .inl ((k 15), 500, .inl fun _ => 0)), ((a 17), .inl ((k 16), 5, .inl fun _ => 0))] ∧ ty = [((k 0), .int), ((k 1), .int), ((k 2), .int), ((k 3), .int), ((k 4), .int), ((k 5), .long), ((k 6), .long), ((k 7), .int), ((k 8), .boolean), ((k 9), .byte), ((k 10), .int), ((k 11), .int), ((k 12), .int), ((k 13), .int), ((k 14), .int), ((k 15), .int), ((k 16), .int)]
abbrev rm_Book : Room := { frames := 2, cells := 18, slots := 164555, locals := 32 }
set_option maxRecDepth 20000 in
theorem cm_Book (γ : xG1) (b : Nat) : cM γ Y_Book_init rm_Book (.ref b :: []) [(b, .inr (2, dfl 2))] (po_Book b) := by
  refine cM.of rfl rfl rfl (Nat.le_of_ble_eq_true rfl) (fun p e s m args below meth c A Z _ E _ hret => ?_)
  show cJ _ _ _ _ _ _ _ _ _ _ _ _ _ 0 [(0, .ref b)] [] _ _ _ _
  refine cJ.aload E (o_Book_init 0 rfl) 0 rfl ?_
  refine cJ.objInit E (o_Book_init 1 rfl) (lw_i1 (List.mem_of_getElem? (i := 150) rfl)) (lw_i1 (List.mem_of_getElem? (i := 32) rfl)) (lw_i1 (List.mem_of_getElem? (i := 33) rfl)) (by decide) (by decide) ?_
  refine cJ.aload E (o_Book_init 2 rfl) 0 rfl ?_
  refine cJ.new0 (ci := 3) E (o_Book_init 3 rfl) rfl (lw_i1 (List.mem_of_getElem? (i := 151) rfl)) (lw_i1 (List.mem_of_getElem? (i := 152) rfl)) (lw_i1 (List.mem_of_getElem? (i := 8) rfl)) (by decide) (by decide) (fun q0 => ?_)
  refine cJ.dup E (o_Book_init 4 rfl) rfl ?_
  refine cJ.call0 (W0 := _) E (cm_Terms γ q0) yc_Terms (o_Book_init 5 rfl) (.inr ⟨_, List.mem_of_getElem? (i := 1) rfl⟩) rfl ⟨by decide, by decide⟩ (by decide) (by decide) rfl (Nat.le_of_ble_eq_true rfl) (fun w1 ty1 hp => ?_)
  obtain ⟨a1, c1, rfl, rfl⟩ := hp
  refine cJ.put0 E (o_Book_init 6 rfl) cf_Book_12 rfl rfl rfl rfl rfl (by simp only [List.length_set, len_dfl]; decide) ?_
  refine cJ.aload E (o_Book_init 7 rfl) 0 rfl ?_
  refine cJ.ldc (v := 65536) E (o_Book_init 8 rfl) (lw_i1 (List.mem_of_getElem? (i := 234) rfl)) ?_
  refine cJ.arr (a0 := (65536, .inl fun _ => 0)) (N := 65536) (ty := .byte) E (o_Book_init 9 rfl) rfl (lw_i1 (List.mem_of_getElem? (i := 142) rfl)) (fun _ => rfl) (by decide) (by decide) (by decide) (by decide) (by decide) (o_Book_init 10 rfl) cf_Book_19 rfl rfl rfl rfl (by simp only [List.length_set, len_dfl]; decide) (fun q10 k9 => ?_)
  refine cJ.aload E (o_Book_init 11 rfl) 0 rfl ?_
  refine cJ.sipush (v := 501) E (o_Book_init 12 rfl) (by decide) ?_
  refine cJ.arr (a0 := (501, .inl fun _ => 0)) (N := 501) (ty := .int) E (o_Book_init 13 rfl) rfl (lw_i1 (List.mem_of_getElem? (i := 144) rfl)) (fun _ => rfl) (by decide) (by decide) (by decide) (by decide) (by decide) (o_Book_init 14 rfl) cf_Book_23 rfl rfl rfl rfl (by simp only [List.length_set, len_dfl]; decide) (fun q11 k10 => ?_)
  refine cJ.aload E (o_Book_init 15 rfl) 0 rfl ?_
  refine cJ.sipush (v := 500) E (o_Book_init 16 rfl) (by decide) ?_
  refine cJ.arr (a0 := (500, .inl fun _ => 0)) (N := 500) (ty := .int) E (o_Book_init 17 rfl) rfl (lw_i1 (List.mem_of_getElem? (i := 144) rfl)) (fun _ => rfl) (by decide) (by decide) (by decide) (by decide) (by decide) (o_Book_init 18 rfl) cf_Book_27 rfl rfl rfl rfl (by simp only [List.length_set, len_dfl]; decide) (fun q12 k11 => ?_)
  refine cJ.aload E (o_Book_init 19 rfl) 0 rfl ?_
  refine cJ.sipush (v := 500) E (o_Book_init 20 rfl) (by decide) ?_
  refine cJ.arr (a0 := (500, .inl fun _ => 0)) (N := 500) (ty := .int) E (o_Book_init 21 rfl) rfl (lw_i1 (List.mem_of_getElem? (i := 144) rfl)) (fun _ => rfl) (by decide) (by decide) (by decide) (by decide) (by decide) (o_Book_init 22 rfl) cf_Book_30 rfl rfl rfl rfl (by simp only [List.length_set, len_dfl]; decide) (fun q13 k12 => ?_)
  refine cJ.aload E (o_Book_init 23 rfl) 0 rfl ?_
  refine cJ.sipush (v := 500) E (o_Book_init 24 rfl) (by decide) ?_
  refine cJ.arr (a0 := (500, .inl fun _ => 0)) (N := 500) (ty := .int) E (o_Book_init 25 rfl) rfl (lw_i1 (List.mem_of_getElem? (i := 144) rfl)) (fun _ => rfl) (by decide) (by decide) (by decide) (by decide) (by decide) (o_Book_init 26 rfl) cf_Book_33 rfl rfl rfl rfl (by simp only [List.length_set, len_dfl]; decide) (fun q14 k13 => ?_)
  refine cJ.aload E (o_Book_init 27 rfl) 0 rfl ?_
  refine cJ.sipush (v := 501) E (o_Book_init 28 rfl) (by decide) ?_
  refine cJ.arr (a0 := (501, .inl fun _ => 0)) (N := 501) (ty := .int) E (o_Book_init 29 rfl) rfl (lw_i1 (List.mem_of_getElem? (i := 144) rfl)) (fun _ => rfl) (by decide) (by decide) (by decide) (by decide) (by decide) (o_Book_init 30 rfl) cf_Book_36 rfl rfl rfl rfl (by simp only [List.length_set, len_dfl]; decide) (fun q15 k14 => ?_)
  refine cJ.aload E (o_Book_init 31 rfl) 0 rfl ?_
  refine cJ.sipush (v := 500) E (o_Book_init 32 rfl) (by decide) ?_
  refine cJ.arr (a0 := (500, .inl fun _ => 0)) (N := 500) (ty := .int) E (o_Book_init 33 rfl) rfl (lw_i1 (List.mem_of_getElem? (i := 144) rfl)) (fun _ => rfl) (by decide) (by decide) (by decide) (by decide) (by decide) (o_Book_init 34 rfl) cf_Book_39 rfl rfl rfl rfl (by simp only [List.length_set, len_dfl]; decide) (fun q16 k15 => ?_)
  refine cJ.aload E (o_Book_init 35 rfl) 0 rfl ?_
  refine cJ.iconst (v := 5) E (o_Book_init 36 rfl) (by decide) ?_
  refine cJ.arr (a0 := (5, .inl fun _ => 0)) (N := 5) (ty := .int) E (o_Book_init 37 rfl) rfl (lw_i1 (List.mem_of_getElem? (i := 144) rfl)) (fun _ => rfl) (by decide) (by decide) (by decide) (by decide) (by decide) (o_Book_init 38 rfl) cf_Book_42 rfl rfl rfl rfl (by simp only [List.length_set, len_dfl]; decide) (fun q17 k16 => ?_)
  refine hret _ _ _ _ (o_Book_init 39 rfl) ?_
  exact ⟨fun i => match i with | 0 => q0 | 1 => (a1 0) | 2 => (a1 1) | 3 => (a1 2) | 4 => (a1 3) | 5 => (a1 4) | 6 => (a1 5) | 7 => (a1 6) | 8 => (a1 7) | 9 => (a1 8) | 10 => q10 | 11 => q11 | 12 => q12 | 13 => q13 | 14 => q14 | 15 => q15 | 16 => q16 | _ => q17, fun i => match i with | 0 => (c1 0) | 1 => (c1 1) | 2 => (c1 2) | 3 => (c1 3) | 4 => (c1 4) | 5 => (c1 5) | 6 => (c1 6) | 7 => (c1 7) | 8 => (c1 8) | 9 => k9 | 10 => k10 | 11 => k11 | 12 => k12 | 13 => k13 | 14 => k14 | 15 => k15 | _ => k16, rfl, rfl⟩
abbrev Y_Evaluator_init : xMth := (⟨"VectorSolver$Evaluator", "<init>", "(LVectorSolver$Book;)V"⟩, prog_4_method_1_code, 2, none, [])
def cd_Evaluator_init : List (Nat × Instr × Nat) := [(0, .aload_n 0, 1), (1, .invokespecial 3, 3), (4, .aload_n 0, 1), (5, .sipush 2000, 3), (8, .newarray .long, 2), (10, .putfield 9, 3), (13, .aload_n 0, 1), (14, .aload_n 1, 1), (15, .putfield 15, 3), (18, .aload_n 0, 1), (19, .aload_n 1, 1), (20, .getfield 19, 3), (23, .putfield 25, 3), (26, .return_, 1)]
theorem oa_Evaluator_init : (cd_Evaluator_init.all fun q => decide (decode prog_4_method_1_code q.1 = .ok q.2)) = true := by decide +kernel
theorem o_Evaluator_init (i : Nat) {pc : Nat} {ins : Instr} {len : Nat} (h : cd_Evaluator_init[i]? = some (pc, ins, len)) : decode prog_4_method_1_code pc = .ok (ins, len) := xo oa_Evaluator_init h
theorem yc_Evaluator : cYc Y_Evaluator_init 1 := ⟨⟨rfl, rfl⟩, (lw_i2 (List.mem_of_getElem? (i := 108) rfl)), (lw_i1 (List.mem_of_getElem? (i := 11) rfl)), (lw_i2 (List.mem_of_getElem? (i := 107) rfl)), rfl, by decide, by decide, by decide +kernel⟩
theorem cf_Evaluator_9 : xFl "VectorSolver$Evaluator" 9 6 2 := ⟨_, _, _, rfl, by decide, rfl, (lw_i2 (List.mem_of_getElem? (i := 112) rfl))⟩
theorem cf_Evaluator_15 : xFl "VectorSolver$Evaluator" 15 6 0 := ⟨_, _, _, rfl, by decide, rfl, (lw_i2 (List.mem_of_getElem? (i := 110) rfl))⟩
theorem cf_Evaluator_19 : xFl "VectorSolver$Evaluator" 19 2 0 := ⟨_, _, _, rfl, by decide, rfl, (lw_i1 (List.mem_of_getElem? (i := 236) rfl))⟩
theorem cf_Evaluator_25 : xFl "VectorSolver$Evaluator" 25 6 1 := ⟨_, _, _, rfl, by decide, rfl, (lw_i2 (List.mem_of_getElem? (i := 111) rfl))⟩
def po_Evaluator (b : Nat) (bk : Nat) (ht : Nat) (fsb : List Value) (w : va_W) (ty : List (ClassId × FieldType)) : Prop := ∃ (a : Nat → Nat) (k : Nat → ClassId), w = [(b, .inr (6, [.ref bk, .ref ht, .ref (a 0)])), (bk, .inr (2, fsb)), ((a 0), .inl ((k 0), 2000, .inr (.inl fun _ => 0)))] ∧ ty = [((k 0), .long)]
abbrev rm_Evaluator : Room := { frames := 1, cells := 1, slots := 2000, locals := 12 }
set_option maxRecDepth 20000 in
theorem cm_Evaluator (γ : xG1) (b : Nat) (bk : Nat) (ht : Nat) (fsb : List Value) (hbk : fsb[0]? = some (.ref ht)) : cM γ Y_Evaluator_init rm_Evaluator (.ref b :: [.ref bk]) [(b, .inr (6, dfl 6)), (bk, .inr (2, fsb))] (po_Evaluator b bk ht fsb) := by
  refine cM.of rfl rfl rfl (Nat.le_of_ble_eq_true rfl) (fun p e s m args below meth c A Z _ E _ hret => ?_)
  show cJ _ _ _ _ _ _ _ _ _ _ _ _ _ 0 [(0, .ref b), (1, .ref bk)] [] _ _ _ _
  refine cJ.aload E (o_Evaluator_init 0 rfl) 0 rfl ?_
  refine cJ.objInit E (o_Evaluator_init 1 rfl) (lw_i2 (List.mem_of_getElem? (i := 109) rfl)) (lw_i1 (List.mem_of_getElem? (i := 32) rfl)) (lw_i1 (List.mem_of_getElem? (i := 33) rfl)) (by decide) (by decide) ?_
  refine cJ.aload E (o_Evaluator_init 2 rfl) 0 rfl ?_
  refine cJ.sipush (v := 2000) E (o_Evaluator_init 3 rfl) (by decide) ?_
  refine cJ.arr1 (a0 := (2000, .inr (.inl fun _ => 0))) (N := 2000) (ty := .long) E (o_Evaluator_init 4 rfl) rfl (lw_i1 (List.mem_of_getElem? (i := 143) rfl)) (fun _ => rfl) (by decide) (by decide) (by decide) (by decide) (by decide) (o_Evaluator_init 5 rfl) cf_Evaluator_9 rfl rfl rfl rfl (by simp only [List.length_set, len_dfl]; decide) (fun q0 k0 => ?_)
  refine cJ.aload E (o_Evaluator_init 6 rfl) 0 rfl ?_
  refine cJ.aload E (o_Evaluator_init 7 rfl) 1 rfl ?_
  refine cJ.put0 E (o_Evaluator_init 8 rfl) cf_Evaluator_15 rfl rfl rfl rfl rfl (by simp only [List.length_set, len_dfl]; decide) ?_
  refine cJ.aload E (o_Evaluator_init 9 rfl) 0 rfl ?_
  refine cJ.aload E (o_Evaluator_init 10 rfl) 1 rfl ?_
  refine cJ.get E (o_Evaluator_init 11 rfl) cf_Evaluator_19 1 rfl hbk ?_
  refine cJ.put0 E (o_Evaluator_init 12 rfl) cf_Evaluator_25 rfl rfl rfl rfl rfl (by simp only [List.length_set, len_dfl]; decide) ?_
  refine hret _ _ _ _ (o_Evaluator_init 13 rfl) ?_
  exact ⟨fun i => match i with  | _ => q0, fun i => match i with  | _ => k0, rfl, rfl⟩
abbrev Y_Learner_init : xMth := (⟨"VectorSolver$Learner", "<init>", "(LVectorSolver$Book;[J[I)V"⟩, prog_5_method_1_code, 4, none, [])
def cd_Learner_init : List (Nat × Instr × Nat) := [(0, .aload_n 0, 1), (1, .invokespecial 3, 3), (4, .aload_n 0, 1), (5, .sipush 2000, 3), (8, .newarray .long, 2), (10, .putfield 9, 3), (13, .aload_n 0, 1), (14, .aload_n 1, 1), (15, .putfield 15, 3), (18, .aload_n 0, 1), (19, .aload_n 1, 1), (20, .getfield 19, 3), (23, .putfield 25, 3), (26, .aload_n 0, 1), (27, .aload_n 2, 1), (28, .putfield 26, 3), (31, .aload_n 0, 1), (32, .aload_n 3, 1), (33, .putfield 29, 3), (36, .return_, 1)]
theorem oa_Learner_init : (cd_Learner_init.all fun q => decide (decode prog_5_method_1_code q.1 = .ok q.2)) = true := by decide +kernel
theorem o_Learner_init (i : Nat) {pc : Nat} {ins : Instr} {len : Nat} (h : cd_Learner_init[i]? = some (pc, ins, len)) : decode prog_5_method_1_code pc = .ok (ins, len) := xo oa_Learner_init h
theorem yc_Learner : cYc Y_Learner_init 3 := ⟨⟨rfl, rfl⟩, (lw_i2 (List.mem_of_getElem? (i := 126) rfl)), (lw_i1 (List.mem_of_getElem? (i := 12) rfl)), (lw_i2 (List.mem_of_getElem? (i := 125) rfl)), rfl, by decide, by decide, by decide +kernel⟩
theorem cf_Learner_9 : xFl "VectorSolver$Learner" 9 7 4 := ⟨_, _, _, rfl, by decide, rfl, (lw_i2 (List.mem_of_getElem? (i := 132) rfl))⟩
theorem cf_Learner_15 : xFl "VectorSolver$Learner" 15 7 0 := ⟨_, _, _, rfl, by decide, rfl, (lw_i2 (List.mem_of_getElem? (i := 128) rfl))⟩
theorem cf_Learner_19 : xFl "VectorSolver$Learner" 19 2 0 := ⟨_, _, _, rfl, by decide, rfl, (lw_i1 (List.mem_of_getElem? (i := 237) rfl))⟩
theorem cf_Learner_25 : xFl "VectorSolver$Learner" 25 7 1 := ⟨_, _, _, rfl, by decide, rfl, (lw_i2 (List.mem_of_getElem? (i := 129) rfl))⟩
theorem cf_Learner_26 : xFl "VectorSolver$Learner" 26 7 2 := ⟨_, _, _, rfl, by decide, rfl, (lw_i2 (List.mem_of_getElem? (i := 130) rfl))⟩
theorem cf_Learner_29 : xFl "VectorSolver$Learner" 29 7 3 := ⟨_, _, _, rfl, by decide, rfl, (lw_i2 (List.mem_of_getElem? (i := 131) rfl))⟩
def po_Learner (b : Nat) (bk : Nat) (wo : Nat) (dp : Nat) (ht : Nat) (fsb : List Value) (w : va_W) (ty : List (ClassId × FieldType)) : Prop := ∃ (a : Nat → Nat) (k : Nat → ClassId), w = [(b, .inr (7, [.ref bk, .ref ht, .ref wo, .ref dp, .ref (a 0), .int 0, .int 0])), (bk, .inr (2, fsb)), ((a 0), .inl ((k 0), 2000, .inr (.inl fun _ => 0)))] ∧ ty = [((k 0), .long)]
abbrev rm_Learner : Room := { frames := 1, cells := 1, slots := 2000, locals := 12 }
set_option maxRecDepth 20000 in
theorem cm_Learner (γ : xG1) (b : Nat) (bk : Nat) (wo : Nat) (dp : Nat) (ht : Nat) (fsb : List Value) (hbk : fsb[0]? = some (.ref ht)) : cM γ Y_Learner_init rm_Learner (.ref b :: [.ref bk, .ref wo, .ref dp]) [(b, .inr (7, dfl 7)), (bk, .inr (2, fsb))] (po_Learner b bk wo dp ht fsb) := by
  refine cM.of rfl rfl rfl (Nat.le_of_ble_eq_true rfl) (fun p e s m args below meth c A Z _ E _ hret => ?_)
  show cJ _ _ _ _ _ _ _ _ _ _ _ _ _ 0 [(0, .ref b), (1, .ref bk), (2, .ref wo), (3, .ref dp)] [] _ _ _ _
  refine cJ.aload E (o_Learner_init 0 rfl) 0 rfl ?_
  refine cJ.objInit E (o_Learner_init 1 rfl) (lw_i2 (List.mem_of_getElem? (i := 127) rfl)) (lw_i1 (List.mem_of_getElem? (i := 32) rfl)) (lw_i1 (List.mem_of_getElem? (i := 33) rfl)) (by decide) (by decide) ?_
  refine cJ.aload E (o_Learner_init 2 rfl) 0 rfl ?_
  refine cJ.sipush (v := 2000) E (o_Learner_init 3 rfl) (by decide) ?_
  refine cJ.arr1 (a0 := (2000, .inr (.inl fun _ => 0))) (N := 2000) (ty := .long) E (o_Learner_init 4 rfl) rfl (lw_i1 (List.mem_of_getElem? (i := 143) rfl)) (fun _ => rfl) (by decide) (by decide) (by decide) (by decide) (by decide) (o_Learner_init 5 rfl) cf_Learner_9 rfl rfl rfl rfl (by simp only [List.length_set, len_dfl]; decide) (fun q0 k0 => ?_)
  refine cJ.aload E (o_Learner_init 6 rfl) 0 rfl ?_
  refine cJ.aload E (o_Learner_init 7 rfl) 1 rfl ?_
  refine cJ.put0 E (o_Learner_init 8 rfl) cf_Learner_15 rfl rfl rfl rfl rfl (by simp only [List.length_set, len_dfl]; decide) ?_
  refine cJ.aload E (o_Learner_init 9 rfl) 0 rfl ?_
  refine cJ.aload E (o_Learner_init 10 rfl) 1 rfl ?_
  refine cJ.get E (o_Learner_init 11 rfl) cf_Learner_19 1 rfl hbk ?_
  refine cJ.put0 E (o_Learner_init 12 rfl) cf_Learner_25 rfl rfl rfl rfl rfl (by simp only [List.length_set, len_dfl]; decide) ?_
  refine cJ.aload E (o_Learner_init 13 rfl) 0 rfl ?_
  refine cJ.aload E (o_Learner_init 14 rfl) 2 rfl ?_
  refine cJ.put0 E (o_Learner_init 15 rfl) cf_Learner_26 rfl rfl rfl rfl rfl (by simp only [List.length_set, len_dfl]; decide) ?_
  refine cJ.aload E (o_Learner_init 16 rfl) 0 rfl ?_
  refine cJ.aload E (o_Learner_init 17 rfl) 3 rfl ?_
  refine cJ.put0 E (o_Learner_init 18 rfl) cf_Learner_29 rfl rfl rfl rfl rfl (by simp only [List.length_set, len_dfl]; decide) ?_
  refine hret _ _ _ _ (o_Learner_init 19 rfl) ?_
  exact ⟨fun i => match i with  | _ => q0, fun i => match i with  | _ => k0, rfl, rfl⟩
abbrev Y_Checker_init : xMth := (⟨"VectorSolver$Checker", "<init>", "(LVectorSolver$Book;)V"⟩, prog_3_method_1_code, 2, none, [])
def cd_Checker_init : List (Nat × Instr × Nat) := [(0, .aload_n 0, 1), (1, .invokespecial 3, 3), (4, .aload_n 0, 1), (5, .sipush 2000, 3), (8, .newarray .long, 2), (10, .putfield 9, 3), (13, .aload_n 0, 1), (14, .sipush 2000, 3), (17, .newarray .long, 2), (19, .putfield 15, 3), (22, .aload_n 0, 1), (23, .sipush 2000, 3), (26, .newarray .byte, 2), (28, .putfield 18, 3), (31, .aload_n 0, 1), (32, .aload_n 1, 1), (33, .putfield 22, 3), (36, .aload_n 0, 1), (37, .aload_n 1, 1), (38, .getfield 26, 3), (41, .putfield 32, 3), (44, .return_, 1)]
theorem oa_Checker_init : (cd_Checker_init.all fun q => decide (decode prog_3_method_1_code q.1 = .ok q.2)) = true := by decide +kernel
theorem o_Checker_init (i : Nat) {pc : Nat} {ins : Instr} {len : Nat} (h : cd_Checker_init[i]? = some (pc, ins, len)) : decode prog_3_method_1_code pc = .ok (ins, len) := xo oa_Checker_init h
theorem yc_Checker : cYc Y_Checker_init 1 := ⟨⟨rfl, rfl⟩, (lw_i2 (List.mem_of_getElem? (i := 154) rfl)), (lw_i1 (List.mem_of_getElem? (i := 13) rfl)), (lw_i2 (List.mem_of_getElem? (i := 153) rfl)), rfl, by decide, by decide, by decide +kernel⟩
theorem cf_Checker_9 : xFl "VectorSolver$Checker" 9 8 2 := ⟨_, _, _, rfl, by decide, rfl, (lw_i2 (List.mem_of_getElem? (i := 158) rfl))⟩
theorem cf_Checker_15 : xFl "VectorSolver$Checker" 15 8 3 := ⟨_, _, _, rfl, by decide, rfl, (lw_i2 (List.mem_of_getElem? (i := 159) rfl))⟩
theorem cf_Checker_18 : xFl "VectorSolver$Checker" 18 8 4 := ⟨_, _, _, rfl, by decide, rfl, (lw_i2 (List.mem_of_getElem? (i := 160) rfl))⟩
theorem cf_Checker_22 : xFl "VectorSolver$Checker" 22 8 0 := ⟨_, _, _, rfl, by decide, rfl, (lw_i2 (List.mem_of_getElem? (i := 156) rfl))⟩
theorem cf_Checker_26 : xFl "VectorSolver$Checker" 26 2 0 := ⟨_, _, _, rfl, by decide, rfl, (lw_i1 (List.mem_of_getElem? (i := 238) rfl))⟩
theorem cf_Checker_32 : xFl "VectorSolver$Checker" 32 8 1 := ⟨_, _, _, rfl, by decide, rfl, (lw_i2 (List.mem_of_getElem? (i := 157) rfl))⟩
def po_Checker (b : Nat) (bk : Nat) (ht : Nat) (fsb : List Value) (w : va_W) (ty : List (ClassId × FieldType)) : Prop := ∃ (a : Nat → Nat) (k : Nat → ClassId), w = [(b, .inr (8, [.ref bk, .ref ht, .ref (a 0), .ref (a 1), .ref (a 2)])), (bk, .inr (2, fsb)), ((a 0), .inl ((k 0), 2000, .inr (.inl fun _ => 0))), ((a 1), .inl ((k 1), 2000, .inr (.inl fun _ => 0))), ((a 2), .inl ((k 2), 2000, .inl fun _ => 0))] ∧ ty = [((k 0), .long), ((k 1), .long), ((k 2), .byte)]
abbrev rm_Checker : Room := { frames := 1, cells := 3, slots := 6000, locals := 12 }
set_option maxRecDepth 20000 in
theorem cm_Checker (γ : xG1) (b : Nat) (bk : Nat) (ht : Nat) (fsb : List Value) (hbk : fsb[0]? = some (.ref ht)) : cM γ Y_Checker_init rm_Checker (.ref b :: [.ref bk]) [(b, .inr (8, dfl 8)), (bk, .inr (2, fsb))] (po_Checker b bk ht fsb) := by
  refine cM.of rfl rfl rfl (Nat.le_of_ble_eq_true rfl) (fun p e s m args below meth c A Z _ E _ hret => ?_)
  show cJ _ _ _ _ _ _ _ _ _ _ _ _ _ 0 [(0, .ref b), (1, .ref bk)] [] _ _ _ _
  refine cJ.aload E (o_Checker_init 0 rfl) 0 rfl ?_
  refine cJ.objInit E (o_Checker_init 1 rfl) (lw_i2 (List.mem_of_getElem? (i := 155) rfl)) (lw_i1 (List.mem_of_getElem? (i := 32) rfl)) (lw_i1 (List.mem_of_getElem? (i := 33) rfl)) (by decide) (by decide) ?_
  refine cJ.aload E (o_Checker_init 2 rfl) 0 rfl ?_
  refine cJ.sipush (v := 2000) E (o_Checker_init 3 rfl) (by decide) ?_
  refine cJ.arr1 (a0 := (2000, .inr (.inl fun _ => 0))) (N := 2000) (ty := .long) E (o_Checker_init 4 rfl) rfl (lw_i1 (List.mem_of_getElem? (i := 143) rfl)) (fun _ => rfl) (by decide) (by decide) (by decide) (by decide) (by decide) (o_Checker_init 5 rfl) cf_Checker_9 rfl rfl rfl rfl (by simp only [List.length_set, len_dfl]; decide) (fun q0 k0 => ?_)
  refine cJ.aload E (o_Checker_init 6 rfl) 0 rfl ?_
  refine cJ.sipush (v := 2000) E (o_Checker_init 7 rfl) (by decide) ?_
  refine cJ.arr1 (a0 := (2000, .inr (.inl fun _ => 0))) (N := 2000) (ty := .long) E (o_Checker_init 8 rfl) rfl (lw_i1 (List.mem_of_getElem? (i := 143) rfl)) (fun _ => rfl) (by decide) (by decide) (by decide) (by decide) (by decide) (o_Checker_init 9 rfl) cf_Checker_15 rfl rfl rfl rfl (by simp only [List.length_set, len_dfl]; decide) (fun q1 k1 => ?_)
  refine cJ.aload E (o_Checker_init 10 rfl) 0 rfl ?_
  refine cJ.sipush (v := 2000) E (o_Checker_init 11 rfl) (by decide) ?_
  refine cJ.arr1 (a0 := (2000, .inl fun _ => 0)) (N := 2000) (ty := .byte) E (o_Checker_init 12 rfl) rfl (lw_i1 (List.mem_of_getElem? (i := 142) rfl)) (fun _ => rfl) (by decide) (by decide) (by decide) (by decide) (by decide) (o_Checker_init 13 rfl) cf_Checker_18 rfl rfl rfl rfl (by simp only [List.length_set, len_dfl]; decide) (fun q2 k2 => ?_)
  refine cJ.aload E (o_Checker_init 14 rfl) 0 rfl ?_
  refine cJ.aload E (o_Checker_init 15 rfl) 1 rfl ?_
  refine cJ.put0 E (o_Checker_init 16 rfl) cf_Checker_22 rfl rfl rfl rfl rfl (by simp only [List.length_set, len_dfl]; decide) ?_
  refine cJ.aload E (o_Checker_init 17 rfl) 0 rfl ?_
  refine cJ.aload E (o_Checker_init 18 rfl) 1 rfl ?_
  refine cJ.get E (o_Checker_init 19 rfl) cf_Checker_26 1 rfl hbk ?_
  refine cJ.put0 E (o_Checker_init 20 rfl) cf_Checker_32 rfl rfl rfl rfl rfl (by simp only [List.length_set, len_dfl]; decide) ?_
  refine hret _ _ _ _ (o_Checker_init 21 rfl) ?_
  exact ⟨fun i => match i with | 0 => q0 | 1 => q1 | _ => q2, fun i => match i with | 0 => k0 | 1 => k1 | _ => k2, rfl, rfl⟩
abbrev Y_Reader_init : xMth := (⟨"VectorSolver$Reader", "<init>", "(LVectorSolver$Text;LVectorSolver$Book;)V"⟩, prog_6_method_1_code, 3, none, [])
def cd_Reader_init : List (Nat × Instr × Nat) := [(0, .aload_n 0, 1), (1, .invokespecial 3, 3), (4, .aload_n 0, 1), (5, .sipush 2400, 3), (8, .newarray .int, 2), (10, .putfield 9, 3), (13, .aload_n 0, 1), (14, .bipush 16, 2), (16, .newarray .int, 2), (18, .putfield 15, 3), (21, .aload_n 0, 1), (22, .bipush 16, 2), (24, .newarray .int, 2), (26, .putfield 18, 3), (29, .aload_n 0, 1), (30, .bipush 16, 2), (32, .newarray .int, 2), (34, .putfield 21, 3), (37, .aload_n 0, 1), (38, .bipush 16, 2), (40, .newarray .boolean, 2), (42, .putfield 24, 3), (45, .aload_n 0, 1), (46, .aload_n 1, 1), (47, .putfield 28, 3), (50, .aload_n 0, 1), (51, .aload_n 2, 1), (52, .putfield 32, 3), (55, .aload_n 0, 1), (56, .aload_n 2, 1), (57, .getfield 36, 3), (60, .putfield 42, 3), (63, .return_, 1)]
theorem oa_Reader_init : (cd_Reader_init.all fun q => decide (decode prog_6_method_1_code q.1 = .ok q.2)) = true := by decide +kernel
theorem o_Reader_init (i : Nat) {pc : Nat} {ins : Instr} {len : Nat} (h : cd_Reader_init[i]? = some (pc, ins, len)) : decode prog_6_method_1_code pc = .ok (ins, len) := xo oa_Reader_init h
theorem yc_Reader : cYc Y_Reader_init 2 := ⟨⟨rfl, rfl⟩, (lw_i2 (List.mem_of_getElem? (i := 59) rfl)), (lw_i1 (List.mem_of_getElem? (i := 9) rfl)), (lw_i2 (List.mem_of_getElem? (i := 58) rfl)), rfl, by decide, by decide, by decide +kernel⟩
theorem cf_Reader_9 : xFl "VectorSolver$Reader" 9 4 3 := ⟨_, _, _, rfl, by decide, rfl, (lw_i2 (List.mem_of_getElem? (i := 64) rfl))⟩
theorem cf_Reader_15 : xFl "VectorSolver$Reader" 15 4 5 := ⟨_, _, _, rfl, by decide, rfl, (lw_i2 (List.mem_of_getElem? (i := 66) rfl))⟩
theorem cf_Reader_18 : xFl "VectorSolver$Reader" 18 4 6 := ⟨_, _, _, rfl, by decide, rfl, (lw_i2 (List.mem_of_getElem? (i := 67) rfl))⟩
theorem cf_Reader_21 : xFl "VectorSolver$Reader" 21 4 7 := ⟨_, _, _, rfl, by decide, rfl, (lw_i2 (List.mem_of_getElem? (i := 68) rfl))⟩
theorem cf_Reader_24 : xFl "VectorSolver$Reader" 24 4 8 := ⟨_, _, _, rfl, by decide, rfl, (lw_i2 (List.mem_of_getElem? (i := 69) rfl))⟩
theorem cf_Reader_28 : xFl "VectorSolver$Reader" 28 4 0 := ⟨_, _, _, rfl, by decide, rfl, (lw_i2 (List.mem_of_getElem? (i := 61) rfl))⟩
theorem cf_Reader_32 : xFl "VectorSolver$Reader" 32 4 1 := ⟨_, _, _, rfl, by decide, rfl, (lw_i2 (List.mem_of_getElem? (i := 62) rfl))⟩
theorem cf_Reader_36 : xFl "VectorSolver$Reader" 36 2 0 := ⟨_, _, _, rfl, by decide, rfl, (lw_i1 (List.mem_of_getElem? (i := 239) rfl))⟩
theorem cf_Reader_42 : xFl "VectorSolver$Reader" 42 4 2 := ⟨_, _, _, rfl, by decide, rfl, (lw_i2 (List.mem_of_getElem? (i := 63) rfl))⟩
def po_Reader (b : Nat) (tx : Nat) (bk : Nat) (ht : Nat) (fsb : List Value) (w : va_W) (ty : List (ClassId × FieldType)) : Prop := ∃ (a : Nat → Nat) (k : Nat → ClassId), w = [(b, .inr (4, [.ref tx, .ref bk, .ref ht, .ref (a 0), .int 0, .ref (a 1), .ref (a 2), .ref (a 3), .ref (a 4), .int 0, .int 0, .int 0])), (bk, .inr (2, fsb)), ((a 0), .inl ((k 0), 2400, .inl fun _ => 0)), ((a 1), .inl ((k 1), 16, .inl fun _ => 0)), ((a 2), .inl ((k 2), 16, .inl fun _ => 0)), ((a 3), .inl ((k 3), 16, .inl fun _ => 0)), ((a 4), .inl ((k 4), 16, .inl fun _ => 0))] ∧ ty = [((k 0), .int), ((k 1), .int), ((k 2), .int), ((k 3), .int), ((k 4), .boolean)]
abbrev rm_Reader : Room := { frames := 1, cells := 5, slots := 2464, locals := 12 }
set_option maxRecDepth 20000 in
theorem cm_Reader (γ : xG1) (b : Nat) (tx : Nat) (bk : Nat) (ht : Nat) (fsb : List Value) (hbk : fsb[0]? = some (.ref ht)) : cM γ Y_Reader_init rm_Reader (.ref b :: [.ref tx, .ref bk]) [(b, .inr (4, dfl 4)), (bk, .inr (2, fsb))] (po_Reader b tx bk ht fsb) := by
  refine cM.of rfl rfl rfl (Nat.le_of_ble_eq_true rfl) (fun p e s m args below meth c A Z _ E _ hret => ?_)
  show cJ _ _ _ _ _ _ _ _ _ _ _ _ _ 0 [(0, .ref b), (1, .ref tx), (2, .ref bk)] [] _ _ _ _
  refine cJ.aload E (o_Reader_init 0 rfl) 0 rfl ?_
  refine cJ.objInit E (o_Reader_init 1 rfl) (lw_i2 (List.mem_of_getElem? (i := 60) rfl)) (lw_i1 (List.mem_of_getElem? (i := 32) rfl)) (lw_i1 (List.mem_of_getElem? (i := 33) rfl)) (by decide) (by decide) ?_
  refine cJ.aload E (o_Reader_init 2 rfl) 0 rfl ?_
  refine cJ.sipush (v := 2400) E (o_Reader_init 3 rfl) (by decide) ?_
  refine cJ.arr1 (a0 := (2400, .inl fun _ => 0)) (N := 2400) (ty := .int) E (o_Reader_init 4 rfl) rfl (lw_i1 (List.mem_of_getElem? (i := 144) rfl)) (fun _ => rfl) (by decide) (by decide) (by decide) (by decide) (by decide) (o_Reader_init 5 rfl) cf_Reader_9 rfl rfl rfl rfl (by simp only [List.length_set, len_dfl]; decide) (fun q0 k0 => ?_)
  refine cJ.aload E (o_Reader_init 6 rfl) 0 rfl ?_
  refine cJ.bipush (v := 16) E (o_Reader_init 7 rfl) (by decide) ?_
  refine cJ.arr1 (a0 := (16, .inl fun _ => 0)) (N := 16) (ty := .int) E (o_Reader_init 8 rfl) rfl (lw_i1 (List.mem_of_getElem? (i := 144) rfl)) (fun _ => rfl) (by decide) (by decide) (by decide) (by decide) (by decide) (o_Reader_init 9 rfl) cf_Reader_15 rfl rfl rfl rfl (by simp only [List.length_set, len_dfl]; decide) (fun q1 k1 => ?_)
  refine cJ.aload E (o_Reader_init 10 rfl) 0 rfl ?_
  refine cJ.bipush (v := 16) E (o_Reader_init 11 rfl) (by decide) ?_
  refine cJ.arr1 (a0 := (16, .inl fun _ => 0)) (N := 16) (ty := .int) E (o_Reader_init 12 rfl) rfl (lw_i1 (List.mem_of_getElem? (i := 144) rfl)) (fun _ => rfl) (by decide) (by decide) (by decide) (by decide) (by decide) (o_Reader_init 13 rfl) cf_Reader_18 rfl rfl rfl rfl (by simp only [List.length_set, len_dfl]; decide) (fun q2 k2 => ?_)
  refine cJ.aload E (o_Reader_init 14 rfl) 0 rfl ?_
  refine cJ.bipush (v := 16) E (o_Reader_init 15 rfl) (by decide) ?_
  refine cJ.arr1 (a0 := (16, .inl fun _ => 0)) (N := 16) (ty := .int) E (o_Reader_init 16 rfl) rfl (lw_i1 (List.mem_of_getElem? (i := 144) rfl)) (fun _ => rfl) (by decide) (by decide) (by decide) (by decide) (by decide) (o_Reader_init 17 rfl) cf_Reader_21 rfl rfl rfl rfl (by simp only [List.length_set, len_dfl]; decide) (fun q3 k3 => ?_)
  refine cJ.aload E (o_Reader_init 18 rfl) 0 rfl ?_
  refine cJ.bipush (v := 16) E (o_Reader_init 19 rfl) (by decide) ?_
  refine cJ.arr1 (a0 := (16, .inl fun _ => 0)) (N := 16) (ty := .boolean) E (o_Reader_init 20 rfl) rfl (lw_i1 (List.mem_of_getElem? (i := 233) rfl)) (fun _ => rfl) (by decide) (by decide) (by decide) (by decide) (by decide) (o_Reader_init 21 rfl) cf_Reader_24 rfl rfl rfl rfl (by simp only [List.length_set, len_dfl]; decide) (fun q4 k4 => ?_)
  refine cJ.aload E (o_Reader_init 22 rfl) 0 rfl ?_
  refine cJ.aload E (o_Reader_init 23 rfl) 1 rfl ?_
  refine cJ.put0 E (o_Reader_init 24 rfl) cf_Reader_28 rfl rfl rfl rfl rfl (by simp only [List.length_set, len_dfl]; decide) ?_
  refine cJ.aload E (o_Reader_init 25 rfl) 0 rfl ?_
  refine cJ.aload E (o_Reader_init 26 rfl) 2 rfl ?_
  refine cJ.put0 E (o_Reader_init 27 rfl) cf_Reader_32 rfl rfl rfl rfl rfl (by simp only [List.length_set, len_dfl]; decide) ?_
  refine cJ.aload E (o_Reader_init 28 rfl) 0 rfl ?_
  refine cJ.aload E (o_Reader_init 29 rfl) 2 rfl ?_
  refine cJ.get E (o_Reader_init 30 rfl) cf_Reader_36 1 rfl hbk ?_
  refine cJ.put0 E (o_Reader_init 31 rfl) cf_Reader_42 rfl rfl rfl rfl rfl (by simp only [List.length_set, len_dfl]; decide) ?_
  refine hret _ _ _ _ (o_Reader_init 32 rfl) ?_
  exact ⟨fun i => match i with | 0 => q0 | 1 => q1 | 2 => q2 | 3 => q3 | _ => q4, fun i => match i with | 0 => k0 | 1 => k1 | 2 => k2 | 3 => k3 | _ => k4, rfl, rfl⟩
abbrev Y_Search_init : xMth := (⟨"VectorSolver$Search", "<init>", "(LVectorSolver$Book;)V"⟩, prog_7_method_1_code, 2, none, [])
def cd_Search_init : List (Nat × Instr × Nat) := [(0, .aload_n 0, 1), (1, .invokespecial 3, 3), (4, .aload_n 0, 1), (5, .sipush 2000, 3), (8, .newarray .int, 2), (10, .putfield 9, 3), (13, .aload_n 0, 1), (14, .sipush 501, 3), (17, .newarray .int, 2), (19, .putfield 15, 3), (22, .aload_n 0, 1), (23, .sipush 2000, 3), (26, .newarray .int, 2), (28, .putfield 18, 3), (31, .aload_n 0, 1), (32, .sipush 501, 3), (35, .newarray .int, 2), (37, .putfield 21, 3), (40, .aload_n 0, 1), (41, .sipush 501, 3), (44, .newarray .int, 2), (46, .putfield 24, 3), (49, .aload_n 0, 1), (50, .sipush 2000, 3), (53, .newarray .byte, 2), (55, .putfield 27, 3), (58, .aload_n 0, 1), (59, .sipush 2000, 3), (62, .newarray .byte, 2), (64, .putfield 31, 3), (67, .aload_n 0, 1), (68, .bipush 16, 2), (70, .newarray .int, 2), (72, .putfield 34, 3), (75, .aload_n 0, 1), (76, .bipush 16, 2), (78, .newarray .int, 2), (80, .putfield 37, 3), (83, .aload_n 0, 1), (84, .aload_n 1, 1), (85, .putfield 40, 3), (88, .aload_n 0, 1), (89, .aload_n 1, 1), (90, .getfield 44, 3), (93, .putfield 50, 3), (96, .aload_n 0, 1), (97, .new 51, 3), (100, .dup, 1), (101, .aload_n 1, 1), (102, .invokespecial 53, 3), (105, .putfield 56, 3), (108, .aload_n 0, 1), (109, .new 60, 3), (112, .dup, 1), (113, .aload_n 1, 1), (114, .aload_n 0, 1), (115, .getfield 56, 3), (118, .getfield 62, 3), (121, .aload_n 0, 1), (122, .getfield 9, 3), (125, .invokespecial 66, 3), (128, .putfield 69, 3), (131, .aload_n 0, 1), (132, .new 73, 3), (135, .dup, 1), (136, .aload_n 1, 1), (137, .invokespecial 75, 3), (140, .putfield 76, 3), (143, .return_, 1)]
theorem oa_Search_init : (cd_Search_init.all fun q => decide (decode prog_7_method_1_code q.1 = .ok q.2)) = true := by decide +kernel
theorem o_Search_init (i : Nat) {pc : Nat} {ins : Instr} {len : Nat} (h : cd_Search_init[i]? = some (pc, ins, len)) : decode prog_7_method_1_code pc = .ok (ins, len) := xo oa_Search_init h
theorem yc_Search : cYc Y_Search_init 1 := ⟨⟨rfl, rfl⟩, (lw_i2 (List.mem_of_getElem? (i := 102) rfl)), (lw_i1 (List.mem_of_getElem? (i := 10) rfl)), (lw_i2 (List.mem_of_getElem? (i := 101) rfl)), rfl, by decide, by decide, by decide +kernel⟩
theorem cf_Search_9 : xFl "VectorSolver$Search" 9 5 5 := ⟨_, _, _, rfl, by decide, rfl, (lw_i2 (List.mem_of_getElem? (i := 177) rfl))⟩
theorem cf_Search_15 : xFl "VectorSolver$Search" 15 5 6 := ⟨_, _, _, rfl, by decide, rfl, (lw_i2 (List.mem_of_getElem? (i := 178) rfl))⟩
theorem cf_Search_18 : xFl "VectorSolver$Search" 18 5 8 := ⟨_, _, _, rfl, by decide, rfl, (lw_i2 (List.mem_of_getElem? (i := 180) rfl))⟩
theorem cf_Search_21 : xFl "VectorSolver$Search" 21 5 9 := ⟨_, _, _, rfl, by decide, rfl, (lw_i2 (List.mem_of_getElem? (i := 181) rfl))⟩
theorem cf_Search_24 : xFl "VectorSolver$Search" 24 5 10 := ⟨_, _, _, rfl, by decide, rfl, (lw_i2 (List.mem_of_getElem? (i := 182) rfl))⟩
theorem cf_Search_27 : xFl "VectorSolver$Search" 27 5 11 := ⟨_, _, _, rfl, by decide, rfl, (lw_i2 (List.mem_of_getElem? (i := 183) rfl))⟩
theorem cf_Search_31 : xFl "VectorSolver$Search" 31 5 12 := ⟨_, _, _, rfl, by decide, rfl, (lw_i2 (List.mem_of_getElem? (i := 184) rfl))⟩
theorem cf_Search_34 : xFl "VectorSolver$Search" 34 5 13 := ⟨_, _, _, rfl, by decide, rfl, (lw_i2 (List.mem_of_getElem? (i := 185) rfl))⟩
theorem cf_Search_37 : xFl "VectorSolver$Search" 37 5 14 := ⟨_, _, _, rfl, by decide, rfl, (lw_i2 (List.mem_of_getElem? (i := 186) rfl))⟩
theorem cf_Search_40 : xFl "VectorSolver$Search" 40 5 0 := ⟨_, _, _, rfl, by decide, rfl, (lw_i2 (List.mem_of_getElem? (i := 172) rfl))⟩
theorem cf_Search_44 : xFl "VectorSolver$Search" 44 2 0 := ⟨_, _, _, rfl, by decide, rfl, (lw_i2 (List.mem_of_getElem? (i := 0) rfl))⟩
theorem cf_Search_50 : xFl "VectorSolver$Search" 50 5 1 := ⟨_, _, _, rfl, by decide, rfl, (lw_i2 (List.mem_of_getElem? (i := 173) rfl))⟩
theorem cf_Search_56 : xFl "VectorSolver$Search" 56 5 2 := ⟨_, _, _, rfl, by decide, rfl, (lw_i2 (List.mem_of_getElem? (i := 174) rfl))⟩
theorem cf_Search_62 : xFl "VectorSolver$Search" 62 6 2 := ⟨_, _, _, rfl, by decide, rfl, (lw_i2 (List.mem_of_getElem? (i := 113) rfl))⟩
theorem cf_Search_69 : xFl "VectorSolver$Search" 69 5 3 := ⟨_, _, _, rfl, by decide, rfl, (lw_i2 (List.mem_of_getElem? (i := 175) rfl))⟩
theorem cf_Search_76 : xFl "VectorSolver$Search" 76 5 4 := ⟨_, _, _, rfl, by decide, rfl, (lw_i2 (List.mem_of_getElem? (i := 176) rfl))⟩
def po_Search (b : Nat) (bk : Nat) (ht : Nat) (fsb : List Value) (w : va_W) (ty : List (ClassId × FieldType)) : Prop := ∃ (a : Nat → Nat) (k : Nat → ClassId), w = [(b, .inr (5, [.ref bk, .ref ht, .ref (a 9), .ref (a 11), .ref (a 13), .ref (a 0), .ref (a 1), .int 0, .ref (a 2), .ref (a 3), .ref (a 4), .ref (a 5), .ref (a 6), .ref (a 7), .ref (a 8), .int 0, .int 0, .int 0])), (bk, .inr (2, fsb)), ((a 0), .inl ((k 0), 2000, .inl fun _ => 0)), ((a 1), .inl ((k 1), 501, .inl fun _ => 0)), ((a 2), .inl ((k 2), 2000, .inl fun _ => 0)), ((a 3), .inl ((k 3), 501, .inl fun _ => 0)), ((a 4), .inl ((k 4), 501, .inl fun _ => 0)), ((a 5), .inl ((k 5), 2000, .inl fun _ => 0)), ((a 6), .inl ((k 6), 2000, .inl fun _ => 0)), ((a 7), .inl ((k 7), 16, .inl fun _ => 0)), ((a 8), .inl ((k 8), 16, .inl fun _ => 0)), ((a 9), .inr (6, [.ref bk, .ref ht, .ref (a 10)])), ((a 10), .inl ((k 9), 2000, .inr (.inl fun _ => 0))), ((a 11), .inr (7, [.ref bk, .ref ht, .ref (a 10), .ref (a 0), .ref (a 12), .int 0, .int 0])), ((a 12), .inl ((k 10), 2000, .inr (.inl fun _ => 0))), ((a 13), .inr (8, [.ref bk, .ref ht, .ref (a 14), .ref (a 15), .ref (a 16)])), ((a 14), .inl ((k 11), 2000, .inr (.inl fun _ => 0))), ((a 15), .inl ((k 12), 2000, .inr (.inl fun _ => 0))), ((a 16), .inl ((k 13), 2000, .inl fun _ => 0))] ∧ ty = [((k 0), .int), ((k 1), .int), ((k 2), .int), ((k 3), .int), ((k 4), .int), ((k 5), .byte), ((k 6), .byte), ((k 7), .int), ((k 8), .int), ((k 9), .long), ((k 10), .long), ((k 11), .long), ((k 12), .long), ((k 13), .byte)]
abbrev rm_Search : Room := { frames := 2, cells := 17, slots := 19550, locals := 35 }
set_option maxRecDepth 20000 in
theorem cm_Search (γ : xG1) (b : Nat) (bk : Nat) (ht : Nat) (fsb : List Value) (hbk : fsb[0]? = some (.ref ht)) : cM γ Y_Search_init rm_Search (.ref b :: [.ref bk]) [(b, .inr (5, dfl 5)), (bk, .inr (2, fsb))] (po_Search b bk ht fsb) := by
  refine cM.of rfl rfl rfl (Nat.le_of_ble_eq_true rfl) (fun p e s m args below meth c A Z _ E _ hret => ?_)
  show cJ _ _ _ _ _ _ _ _ _ _ _ _ _ 0 [(0, .ref b), (1, .ref bk)] [] _ _ _ _
  refine cJ.aload E (o_Search_init 0 rfl) 0 rfl ?_
  refine cJ.objInit E (o_Search_init 1 rfl) (lw_i2 (List.mem_of_getElem? (i := 103) rfl)) (lw_i1 (List.mem_of_getElem? (i := 32) rfl)) (lw_i1 (List.mem_of_getElem? (i := 33) rfl)) (by decide) (by decide) ?_
  refine cJ.aload E (o_Search_init 2 rfl) 0 rfl ?_
  refine cJ.sipush (v := 2000) E (o_Search_init 3 rfl) (by decide) ?_
  refine cJ.arr1 (a0 := (2000, .inl fun _ => 0)) (N := 2000) (ty := .int) E (o_Search_init 4 rfl) rfl (lw_i1 (List.mem_of_getElem? (i := 144) rfl)) (fun _ => rfl) (by decide) (by decide) (by decide) (by decide) (by decide) (o_Search_init 5 rfl) cf_Search_9 rfl rfl rfl rfl (by simp only [List.length_set, len_dfl]; decide) (fun q0 k0 => ?_)
  refine cJ.aload E (o_Search_init 6 rfl) 0 rfl ?_
  refine cJ.sipush (v := 501) E (o_Search_init 7 rfl) (by decide) ?_
  refine cJ.arr1 (a0 := (501, .inl fun _ => 0)) (N := 501) (ty := .int) E (o_Search_init 8 rfl) rfl (lw_i1 (List.mem_of_getElem? (i := 144) rfl)) (fun _ => rfl) (by decide) (by decide) (by decide) (by decide) (by decide) (o_Search_init 9 rfl) cf_Search_15 rfl rfl rfl rfl (by simp only [List.length_set, len_dfl]; decide) (fun q1 k1 => ?_)
  refine cJ.aload E (o_Search_init 10 rfl) 0 rfl ?_
  refine cJ.sipush (v := 2000) E (o_Search_init 11 rfl) (by decide) ?_
  refine cJ.arr1 (a0 := (2000, .inl fun _ => 0)) (N := 2000) (ty := .int) E (o_Search_init 12 rfl) rfl (lw_i1 (List.mem_of_getElem? (i := 144) rfl)) (fun _ => rfl) (by decide) (by decide) (by decide) (by decide) (by decide) (o_Search_init 13 rfl) cf_Search_18 rfl rfl rfl rfl (by simp only [List.length_set, len_dfl]; decide) (fun q2 k2 => ?_)
  refine cJ.aload E (o_Search_init 14 rfl) 0 rfl ?_
  refine cJ.sipush (v := 501) E (o_Search_init 15 rfl) (by decide) ?_
  refine cJ.arr1 (a0 := (501, .inl fun _ => 0)) (N := 501) (ty := .int) E (o_Search_init 16 rfl) rfl (lw_i1 (List.mem_of_getElem? (i := 144) rfl)) (fun _ => rfl) (by decide) (by decide) (by decide) (by decide) (by decide) (o_Search_init 17 rfl) cf_Search_21 rfl rfl rfl rfl (by simp only [List.length_set, len_dfl]; decide) (fun q3 k3 => ?_)
  refine cJ.aload E (o_Search_init 18 rfl) 0 rfl ?_
  refine cJ.sipush (v := 501) E (o_Search_init 19 rfl) (by decide) ?_
  refine cJ.arr1 (a0 := (501, .inl fun _ => 0)) (N := 501) (ty := .int) E (o_Search_init 20 rfl) rfl (lw_i1 (List.mem_of_getElem? (i := 144) rfl)) (fun _ => rfl) (by decide) (by decide) (by decide) (by decide) (by decide) (o_Search_init 21 rfl) cf_Search_24 rfl rfl rfl rfl (by simp only [List.length_set, len_dfl]; decide) (fun q4 k4 => ?_)
  refine cJ.aload E (o_Search_init 22 rfl) 0 rfl ?_
  refine cJ.sipush (v := 2000) E (o_Search_init 23 rfl) (by decide) ?_
  refine cJ.arr1 (a0 := (2000, .inl fun _ => 0)) (N := 2000) (ty := .byte) E (o_Search_init 24 rfl) rfl (lw_i1 (List.mem_of_getElem? (i := 142) rfl)) (fun _ => rfl) (by decide) (by decide) (by decide) (by decide) (by decide) (o_Search_init 25 rfl) cf_Search_27 rfl rfl rfl rfl (by simp only [List.length_set, len_dfl]; decide) (fun q5 k5 => ?_)
  refine cJ.aload E (o_Search_init 26 rfl) 0 rfl ?_
  refine cJ.sipush (v := 2000) E (o_Search_init 27 rfl) (by decide) ?_
  refine cJ.arr1 (a0 := (2000, .inl fun _ => 0)) (N := 2000) (ty := .byte) E (o_Search_init 28 rfl) rfl (lw_i1 (List.mem_of_getElem? (i := 142) rfl)) (fun _ => rfl) (by decide) (by decide) (by decide) (by decide) (by decide) (o_Search_init 29 rfl) cf_Search_31 rfl rfl rfl rfl (by simp only [List.length_set, len_dfl]; decide) (fun q6 k6 => ?_)
  refine cJ.aload E (o_Search_init 30 rfl) 0 rfl ?_
  refine cJ.bipush (v := 16) E (o_Search_init 31 rfl) (by decide) ?_
  refine cJ.arr1 (a0 := (16, .inl fun _ => 0)) (N := 16) (ty := .int) E (o_Search_init 32 rfl) rfl (lw_i1 (List.mem_of_getElem? (i := 144) rfl)) (fun _ => rfl) (by decide) (by decide) (by decide) (by decide) (by decide) (o_Search_init 33 rfl) cf_Search_34 rfl rfl rfl rfl (by simp only [List.length_set, len_dfl]; decide) (fun q7 k7 => ?_)
  refine cJ.aload E (o_Search_init 34 rfl) 0 rfl ?_
  refine cJ.bipush (v := 16) E (o_Search_init 35 rfl) (by decide) ?_
  refine cJ.arr1 (a0 := (16, .inl fun _ => 0)) (N := 16) (ty := .int) E (o_Search_init 36 rfl) rfl (lw_i1 (List.mem_of_getElem? (i := 144) rfl)) (fun _ => rfl) (by decide) (by decide) (by decide) (by decide) (by decide) (o_Search_init 37 rfl) cf_Search_37 rfl rfl rfl rfl (by simp only [List.length_set, len_dfl]; decide) (fun q8 k8 => ?_)
  refine cJ.aload E (o_Search_init 38 rfl) 0 rfl ?_
  refine cJ.aload E (o_Search_init 39 rfl) 1 rfl ?_
  refine cJ.put0 E (o_Search_init 40 rfl) cf_Search_40 rfl rfl rfl rfl rfl (by simp only [List.length_set, len_dfl]; decide) ?_
  refine cJ.aload E (o_Search_init 41 rfl) 0 rfl ?_
  refine cJ.aload E (o_Search_init 42 rfl) 1 rfl ?_
  refine cJ.get E (o_Search_init 43 rfl) cf_Search_44 1 rfl hbk ?_
  refine cJ.put0 E (o_Search_init 44 rfl) cf_Search_50 rfl rfl rfl rfl rfl (by simp only [List.length_set, len_dfl]; decide) ?_
  refine cJ.aload E (o_Search_init 45 rfl) 0 rfl ?_
  refine cJ.new1 (ci := 6) E (o_Search_init 46 rfl) rfl (lw_i2 (List.mem_of_getElem? (i := 104) rfl)) (lw_i2 (List.mem_of_getElem? (i := 105) rfl)) (lw_i1 (List.mem_of_getElem? (i := 11) rfl)) (by decide) (by decide) (fun q9 => ?_)
  refine cJ.dup E (o_Search_init 47 rfl) rfl ?_
  refine cJ.aload E (o_Search_init 48 rfl) 1 rfl ?_
  refine cJ.call1 (W0 := _) E (cm_Evaluator γ q9 bk _ _ hbk) yc_Evaluator (o_Search_init 49 rfl) (.inl (lw_i2 (List.mem_of_getElem? (i := 106) rfl))) rfl ⟨by decide, by decide⟩ (by decide) (by decide) rfl (Nat.le_of_ble_eq_true rfl) (fun w1 ty1 hp => ?_)
  obtain ⟨a1, c1, rfl, rfl⟩ := hp
  refine ⟨_, _, rfl, ?_⟩
  refine cJ.put0 E (o_Search_init 50 rfl) cf_Search_56 rfl rfl rfl rfl rfl (by simp only [List.length_set, len_dfl]; decide) ?_
  refine cJ.aload E (o_Search_init 51 rfl) 0 rfl ?_
  refine cJ.new1 (ci := 7) E (o_Search_init 52 rfl) rfl (lw_i2 (List.mem_of_getElem? (i := 122) rfl)) (lw_i2 (List.mem_of_getElem? (i := 123) rfl)) (lw_i1 (List.mem_of_getElem? (i := 12) rfl)) (by decide) (by decide) (fun q11 => ?_)
  refine cJ.dup E (o_Search_init 53 rfl) rfl ?_
  refine cJ.aload E (o_Search_init 54 rfl) 1 rfl ?_
  refine cJ.aload E (o_Search_init 55 rfl) 0 rfl ?_
  refine cJ.get E (o_Search_init 56 rfl) cf_Search_56 0 rfl rfl ?_
  refine cJ.get E (o_Search_init 57 rfl) cf_Search_62 11 rfl rfl ?_
  refine cJ.aload E (o_Search_init 58 rfl) 0 rfl ?_
  refine cJ.get E (o_Search_init 59 rfl) cf_Search_9 0 rfl rfl ?_
  refine cJ.call1 (W0 := _) E (cm_Learner γ q11 bk (a1 0) q0 _ _ hbk) yc_Learner (o_Search_init 60 rfl) (.inl (lw_i2 (List.mem_of_getElem? (i := 124) rfl))) rfl ⟨by decide, by decide⟩ (by decide) (by decide) rfl (Nat.le_of_ble_eq_true rfl) (fun w1 ty1 hp => ?_)
  obtain ⟨a2, c2, rfl, rfl⟩ := hp
  refine ⟨_, _, rfl, ?_⟩
  refine cJ.put0 E (o_Search_init 61 rfl) cf_Search_69 rfl rfl rfl rfl rfl (by simp only [List.length_set, len_dfl]; decide) ?_
  refine cJ.aload E (o_Search_init 62 rfl) 0 rfl ?_
  refine cJ.new1 (ci := 8) E (o_Search_init 63 rfl) rfl (lw_i2 (List.mem_of_getElem? (i := 150) rfl)) (lw_i2 (List.mem_of_getElem? (i := 151) rfl)) (lw_i1 (List.mem_of_getElem? (i := 13) rfl)) (by decide) (by decide) (fun q13 => ?_)
  refine cJ.dup E (o_Search_init 64 rfl) rfl ?_
  refine cJ.aload E (o_Search_init 65 rfl) 1 rfl ?_
  refine cJ.call1 (W0 := _) E (cm_Checker γ q13 bk _ _ hbk) yc_Checker (o_Search_init 66 rfl) (.inl (lw_i2 (List.mem_of_getElem? (i := 152) rfl))) rfl ⟨by decide, by decide⟩ (by decide) (by decide) rfl (Nat.le_of_ble_eq_true rfl) (fun w1 ty1 hp => ?_)
  obtain ⟨a3, c3, rfl, rfl⟩ := hp
  refine ⟨_, _, rfl, ?_⟩
  refine cJ.put0 E (o_Search_init 67 rfl) cf_Search_76 rfl rfl rfl rfl rfl (by simp only [List.length_set, len_dfl]; decide) ?_
  refine hret _ _ _ _ (o_Search_init 68 rfl) ?_
  exact ⟨fun i => match i with | 0 => q0 | 1 => q1 | 2 => q2 | 3 => q3 | 4 => q4 | 5 => q5 | 6 => q6 | 7 => q7 | 8 => q8 | 9 => q9 | 10 => (a1 0) | 11 => q11 | 12 => (a2 0) | 13 => q13 | 14 => (a3 0) | 15 => (a3 1) | _ => (a3 2), fun i => match i with | 0 => k0 | 1 => k1 | 2 => k2 | 3 => k3 | 4 => k4 | 5 => k5 | 6 => k6 | 7 => k7 | 8 => k8 | 9 => (c1 0) | 10 => (c2 0) | 11 => (c3 0) | 12 => (c3 1) | _ => (c3 2), rfl, rfl⟩
