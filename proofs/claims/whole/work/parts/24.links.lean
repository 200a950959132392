abbrev Y_VectorSolver_read : xMth := (⟨"VectorSolver", "read", "()I"⟩, prog_1_method_4_code, 1, some .int, [])
def cd_VectorSolver_read : List (Nat × Instr × Nat) := [(0, .aload_n 0, 1), (1, .getfield 28, 3), (4, .invokevirtual 76, 3), (7, .ireturn, 1)]
theorem oa_VectorSolver_read : (cd_VectorSolver_read.all fun q => decide (decode prog_1_method_4_code q.1 = .ok q.2)) = true := by decide +kernel
theorem o_VectorSolver_read (i : Nat) {pc : Nat} {ins : Instr} {len : Nat} (h : cd_VectorSolver_read[i]? = some (pc, ins, len)) : decode prog_1_method_4_code pc = .ok (ins, len) := xo oa_VectorSolver_read h
theorem y_VectorSolver_read : xYc Y_VectorSolver_read 0 := ⟨(lw_i3 (List.mem_of_getElem? (i := 25) rfl)), (lw_i1 (List.mem_of_getElem? (i := 1) rfl)), ⟨by decide, by decide⟩, by decide +kernel, by decide⟩
theorem im_VectorSolver_read : Cond.instanceMethod Y_VectorSolver_read.1 ∈ lw_gd := (lw_i3 (List.mem_of_getElem? (i := 23) rfl))
theorem se_VectorSolver_read : Cond.selects Y_VectorSolver_read.1.cls Y_VectorSolver_read.1 Y_VectorSolver_read.1 ∈ lw_gd := (lw_i3 (List.mem_of_getElem? (i := 24) rfl))
abbrev Y_Reader_wholeText : xMth := (⟨"VectorSolver$Reader", "wholeText", "()I"⟩, prog_6_method_2_code, 3, some .int, [(26, 31, 34, 62)])
def cd_Reader_wholeText : List (Nat × Instr × Nat) := [(0, .aload_n 0, 1), (1, .getfield 28, 3), (4, .invokevirtual 43, 3), (7, .aload_n 0, 1), (8, .getfield 32, 3), (11, .invokevirtual 48, 3), (14, .aload_n 0, 1), (15, .iconst 0, 1), (16, .putfield 51, 3), (19, .aload_n 0, 1), (20, .iconst 0, 1), (21, .putfield 55, 3), (24, .iconst (-1), 1), (25, .istore_n 1, 1), (26, .aload_n 0, 1), (27, .invokevirtual 58, 3), (30, .istore_n 1, 1), (31, .goto 11, 3), (34, .astore_n 2, 1), (35, .aload_n 0, 1), (36, .getfield 32, 3), (39, .invokevirtual 64, 3), (42, .aload_n 0, 1), (43, .getfield 28, 3), (46, .iconst 0, 1), (47, .putfield 67, 3), (50, .iload_n 1, 1), (51, .ireturn, 1)]
theorem oa_Reader_wholeText : (cd_Reader_wholeText.all fun q => decide (decode prog_6_method_2_code q.1 = .ok q.2)) = true := by decide +kernel
theorem o_Reader_wholeText (i : Nat) {pc : Nat} {ins : Instr} {len : Nat} (h : cd_Reader_wholeText[i]? = some (pc, ins, len)) : decode prog_6_method_2_code pc = .ok (ins, len) := xo oa_Reader_wholeText h
theorem y_Reader_wholeText : xYc Y_Reader_wholeText 0 := ⟨(lw_i3 (List.mem_of_getElem? (i := 29) rfl)), (lw_i1 (List.mem_of_getElem? (i := 9) rfl)), ⟨by decide, by decide⟩, by decide +kernel, by decide⟩
theorem im_Reader_wholeText : Cond.instanceMethod Y_Reader_wholeText.1 ∈ lw_gd := (lw_i3 (List.mem_of_getElem? (i := 27) rfl))
theorem se_Reader_wholeText : Cond.selects Y_Reader_wholeText.1.cls Y_Reader_wholeText.1 Y_Reader_wholeText.1 ∈ lw_gd := (lw_i3 (List.mem_of_getElem? (i := 28) rfl))
abbrev Y_VectorSolverLaw_feed : xMth := (⟨"VectorSolverLaw", "feed", "(LVectorSolver;IIIII[J)I"⟩, method_3_code, 8, some .int, [(0, 16, 19, 13)])
def cd_VectorSolverLaw_feed : List (Nat × Instr × Nat) := [(0, .aload 6, 2), (2, .iconst 0, 1), (3, .aload_n 0, 1), (4, .iload_n 1, 1), (5, .iload_n 2, 1), (6, .iload_n 3, 1), (7, .iload 4, 2), (9, .iload 5, 2), (11, .invokevirtual 7, 3), (14, .i2l, 1), (15, .lastore, 1), (16, .goto 7, 3), (19, .astore 7, 2), (21, .iconst 1, 1), (22, .ireturn, 1), (23, .iconst 0, 1), (24, .ireturn, 1)]
theorem oa_VectorSolverLaw_feed : (cd_VectorSolverLaw_feed.all fun q => decide (decode method_3_code q.1 = .ok q.2)) = true := by decide +kernel
theorem o_VectorSolverLaw_feed (i : Nat) {pc : Nat} {ins : Instr} {len : Nat} (h : cd_VectorSolverLaw_feed[i]? = some (pc, ins, len)) : decode method_3_code pc = .ok (ins, len) := xo oa_VectorSolverLaw_feed h
theorem y_VectorSolverLaw_feed : xYc Y_VectorSolverLaw_feed 7 := ⟨(lw_i4 (List.mem_of_getElem? (i := 177) rfl)), (lw_i1 (List.mem_of_getElem? (i := 0) rfl)), ⟨by decide, by decide⟩, by decide +kernel, by decide⟩
theorem st_VectorSolverLaw_feed : Cond.static Y_VectorSolverLaw_feed.1 ∈ lw_gd := (lw_i4 (List.mem_of_getElem? (i := 176) rfl))
abbrev Y_VectorSolverLaw_trim : xMth := (⟨"VectorSolverLaw", "trim", "(LVectorSolver;I[J)I"⟩, method_4_code, 4, some .int, [(0, 9, 12, 19)])
def cd_VectorSolverLaw_trim : List (Nat × Instr × Nat) := [(0, .aload_n 2, 1), (1, .iconst 0, 1), (2, .aload_n 0, 1), (3, .iload_n 1, 1), (4, .invokevirtual 15, 3), (7, .i2l, 1), (8, .lastore, 1), (9, .goto 6, 3), (12, .astore_n 3, 1), (13, .iconst 1, 1), (14, .ireturn, 1), (15, .iconst 0, 1), (16, .ireturn, 1)]
theorem oa_VectorSolverLaw_trim : (cd_VectorSolverLaw_trim.all fun q => decide (decode method_4_code q.1 = .ok q.2)) = true := by decide +kernel
theorem o_VectorSolverLaw_trim (i : Nat) {pc : Nat} {ins : Instr} {len : Nat} (h : cd_VectorSolverLaw_trim[i]? = some (pc, ins, len)) : decode method_4_code pc = .ok (ins, len) := xo oa_VectorSolverLaw_trim h
theorem y_VectorSolverLaw_trim : xYc Y_VectorSolverLaw_trim 3 := ⟨(lw_i4 (List.mem_of_getElem? (i := 193) rfl)), (lw_i1 (List.mem_of_getElem? (i := 0) rfl)), ⟨by decide, by decide⟩, by decide +kernel, by decide⟩
theorem st_VectorSolverLaw_trim : Cond.static Y_VectorSolverLaw_trim.1 ∈ lw_gd := (lw_i4 (List.mem_of_getElem? (i := 192) rfl))
abbrev Y_VectorSolverLaw_fault : xMth := (⟨"VectorSolverLaw", "fault", "(LVectorSolver;I[J)I"⟩, method_5_code, 4, some .int, [(0, 9, 12, 19)])
def cd_VectorSolverLaw_fault : List (Nat × Instr × Nat) := [(0, .aload_n 2, 1), (1, .iconst 0, 1), (2, .aload_n 0, 1), (3, .iload_n 1, 1), (4, .invokevirtual 21, 3), (7, .i2l, 1), (8, .lastore, 1), (9, .goto 6, 3), (12, .astore_n 3, 1), (13, .iconst 1, 1), (14, .ireturn, 1), (15, .iconst 0, 1), (16, .ireturn, 1)]
theorem oa_VectorSolverLaw_fault : (cd_VectorSolverLaw_fault.all fun q => decide (decode method_5_code q.1 = .ok q.2)) = true := by decide +kernel
theorem o_VectorSolverLaw_fault (i : Nat) {pc : Nat} {ins : Instr} {len : Nat} (h : cd_VectorSolverLaw_fault[i]? = some (pc, ins, len)) : decode method_5_code pc = .ok (ins, len) := xo oa_VectorSolverLaw_fault h
theorem y_VectorSolverLaw_fault : xYc Y_VectorSolverLaw_fault 3 := ⟨(lw_i4 (List.mem_of_getElem? (i := 217) rfl)), (lw_i1 (List.mem_of_getElem? (i := 0) rfl)), ⟨by decide, by decide⟩, by decide +kernel, by decide⟩
theorem st_VectorSolverLaw_fault : Cond.static Y_VectorSolverLaw_fault.1 ∈ lw_gd := (lw_i4 (List.mem_of_getElem? (i := 216) rfl))
abbrev Y_VectorSolverLaw_check : xMth := (⟨"VectorSolverLaw", "check", "(LVectorSolver;[J)I"⟩, method_6_code, 3, some .int, [(0, 15, 18, 13)])
def cd_VectorSolverLaw_check : List (Nat × Instr × Nat) := [(0, .aload_n 1, 1), (1, .iconst 0, 1), (2, .aload_n 0, 1), (3, .invokevirtual 24, 3), (6, .ifCond .eq 7, 3), (9, .lconst 1, 1), (10, .goto 4, 3), (13, .lconst 0, 1), (14, .lastore, 1), (15, .goto 6, 3), (18, .astore_n 2, 1), (19, .iconst 1, 1), (20, .ireturn, 1), (21, .iconst 0, 1), (22, .ireturn, 1)]
theorem oa_VectorSolverLaw_check : (cd_VectorSolverLaw_check.all fun q => decide (decode method_6_code q.1 = .ok q.2)) = true := by decide +kernel
theorem o_VectorSolverLaw_check (i : Nat) {pc : Nat} {ins : Instr} {len : Nat} (h : cd_VectorSolverLaw_check[i]? = some (pc, ins, len)) : decode method_6_code pc = .ok (ins, len) := xo oa_VectorSolverLaw_check h
theorem y_VectorSolverLaw_check : xYc Y_VectorSolverLaw_check 2 := ⟨(lw_i4 (List.mem_of_getElem? (i := 225) rfl)), (lw_i1 (List.mem_of_getElem? (i := 0) rfl)), ⟨by decide, by decide⟩, by decide +kernel, by decide⟩
theorem st_VectorSolverLaw_check : Cond.static Y_VectorSolverLaw_check.1 ∈ lw_gd := (lw_i4 (List.mem_of_getElem? (i := 224) rfl))
abbrev Y_VectorSolverLaw_more : xMth := (⟨"VectorSolverLaw", "more", "(LVectorSolver;[J)I"⟩, method_7_code, 3, some .int, [(0, 15, 18, 13)])
def cd_VectorSolverLaw_more : List (Nat × Instr × Nat) := [(0, .aload_n 1, 1), (1, .iconst 0, 1), (2, .aload_n 0, 1), (3, .invokevirtual 28, 3), (6, .ifCond .eq 7, 3), (9, .lconst 1, 1), (10, .goto 4, 3), (13, .lconst 0, 1), (14, .lastore, 1), (15, .goto 6, 3), (18, .astore_n 2, 1), (19, .iconst 1, 1), (20, .ireturn, 1), (21, .iconst 0, 1), (22, .ireturn, 1)]
theorem oa_VectorSolverLaw_more : (cd_VectorSolverLaw_more.all fun q => decide (decode method_7_code q.1 = .ok q.2)) = true := by decide +kernel
theorem o_VectorSolverLaw_more (i : Nat) {pc : Nat} {ins : Instr} {len : Nat} (h : cd_VectorSolverLaw_more[i]? = some (pc, ins, len)) : decode method_7_code pc = .ok (ins, len) := xo oa_VectorSolverLaw_more h
theorem y_VectorSolverLaw_more : xYc Y_VectorSolverLaw_more 2 := ⟨(lw_i6 (List.mem_of_getElem? (i := 117) rfl)), (lw_i1 (List.mem_of_getElem? (i := 0) rfl)), ⟨by decide, by decide⟩, by decide +kernel, by decide⟩
theorem st_VectorSolverLaw_more : Cond.static Y_VectorSolverLaw_more.1 ∈ lw_gd := (lw_i6 (List.mem_of_getElem? (i := 116) rfl))
abbrev Y_VectorSolverLaw_suppose : xMth := (⟨"VectorSolverLaw", "suppose", "(LVectorSolver;I[J)I"⟩, method_8_code, 4, some .int, [(0, 16, 19, 19), (0, 16, 22, 13)])
def cd_VectorSolverLaw_suppose : List (Nat × Instr × Nat) := [(0, .aload_n 2, 1), (1, .iconst 0, 1), (2, .aload_n 0, 1), (3, .iload_n 1, 1), (4, .invokevirtual 31, 3), (7, .ifCond .eq 7, 3), (10, .lconst 1, 1), (11, .goto 4, 3), (14, .lconst 0, 1), (15, .lastore, 1), (16, .goto 9, 3), (19, .astore_n 3, 1), (20, .iconst 1, 1), (21, .ireturn, 1), (22, .astore_n 3, 1), (23, .iconst 2, 1), (24, .ireturn, 1), (25, .iconst 0, 1), (26, .ireturn, 1)]
theorem oa_VectorSolverLaw_suppose : (cd_VectorSolverLaw_suppose.all fun q => decide (decode method_8_code q.1 = .ok q.2)) = true := by decide +kernel
theorem o_VectorSolverLaw_suppose (i : Nat) {pc : Nat} {ins : Instr} {len : Nat} (h : cd_VectorSolverLaw_suppose[i]? = some (pc, ins, len)) : decode method_8_code pc = .ok (ins, len) := xo oa_VectorSolverLaw_suppose h
theorem y_VectorSolverLaw_suppose : xYc Y_VectorSolverLaw_suppose 3 := ⟨(lw_i6 (List.mem_of_getElem? (i := 128) rfl)), (lw_i1 (List.mem_of_getElem? (i := 0) rfl)), ⟨by decide, by decide⟩, by decide +kernel, by decide⟩
theorem st_VectorSolverLaw_suppose : Cond.static Y_VectorSolverLaw_suppose.1 ∈ lw_gd := (lw_i6 (List.mem_of_getElem? (i := 127) rfl))
abbrev Y_VectorSolverLaw_value : xMth := (⟨"VectorSolverLaw", "value", "(LVectorSolver;II[J)I"⟩, method_9_code, 5, some .int, [(0, 9, 12, 19), (0, 9, 16, 13)])
def cd_VectorSolverLaw_value : List (Nat × Instr × Nat) := [(0, .aload_n 3, 1), (1, .iconst 0, 1), (2, .aload_n 0, 1), (3, .iload_n 1, 1), (4, .iload_n 2, 1), (5, .invokevirtual 35, 3), (8, .lastore, 1), (9, .goto 11, 3), (12, .astore 4, 2), (14, .iconst 1, 1), (15, .ireturn, 1), (16, .astore 4, 2), (18, .iconst 2, 1), (19, .ireturn, 1), (20, .iconst 0, 1), (21, .ireturn, 1)]
theorem oa_VectorSolverLaw_value : (cd_VectorSolverLaw_value.all fun q => decide (decode method_9_code q.1 = .ok q.2)) = true := by decide +kernel
theorem o_VectorSolverLaw_value (i : Nat) {pc : Nat} {ins : Instr} {len : Nat} (h : cd_VectorSolverLaw_value[i]? = some (pc, ins, len)) : decode method_9_code pc = .ok (ins, len) := xo oa_VectorSolverLaw_value h
theorem y_VectorSolverLaw_value : xYc Y_VectorSolverLaw_value 4 := ⟨(lw_i6 (List.mem_of_getElem? (i := 141) rfl)), (lw_i1 (List.mem_of_getElem? (i := 0) rfl)), ⟨by decide, by decide⟩, by decide +kernel, by decide⟩
theorem st_VectorSolverLaw_value : Cond.static Y_VectorSolverLaw_value.1 ∈ lw_gd := (lw_i6 (List.mem_of_getElem? (i := 140) rfl))
abbrev Y_VectorSolverLaw_named : xMth := (⟨"VectorSolverLaw", "named", "(LVectorSolver;I[J)I"⟩, method_10_code, 4, some .int, [(0, 8, 11, 19), (0, 8, 14, 13)])
def cd_VectorSolverLaw_named : List (Nat × Instr × Nat) := [(0, .aload_n 2, 1), (1, .iconst 0, 1), (2, .aload_n 0, 1), (3, .iload_n 1, 1), (4, .invokevirtual 39, 3), (7, .lastore, 1), (8, .goto 9, 3), (11, .astore_n 3, 1), (12, .iconst 1, 1), (13, .ireturn, 1), (14, .astore_n 3, 1), (15, .iconst 2, 1), (16, .ireturn, 1), (17, .iconst 0, 1), (18, .ireturn, 1)]
theorem oa_VectorSolverLaw_named : (cd_VectorSolverLaw_named.all fun q => decide (decode method_10_code q.1 = .ok q.2)) = true := by decide +kernel
theorem o_VectorSolverLaw_named (i : Nat) {pc : Nat} {ins : Instr} {len : Nat} (h : cd_VectorSolverLaw_named[i]? = some (pc, ins, len)) : decode method_10_code pc = .ok (ins, len) := xo oa_VectorSolverLaw_named h
theorem y_VectorSolverLaw_named : xYc Y_VectorSolverLaw_named 3 := ⟨(lw_i6 (List.mem_of_getElem? (i := 160) rfl)), (lw_i1 (List.mem_of_getElem? (i := 0) rfl)), ⟨by decide, by decide⟩, by decide +kernel, by decide⟩
theorem st_VectorSolverLaw_named : Cond.static Y_VectorSolverLaw_named.1 ∈ lw_gd := (lw_i6 (List.mem_of_getElem? (i := 159) rfl))
abbrev Y_VectorSolverLaw_thing : xMth := (⟨"VectorSolverLaw", "thing", "(LVectorSolver;II[J)I"⟩, method_11_code, 5, some .int, [(0, 10, 13, 19)])
def cd_VectorSolverLaw_thing : List (Nat × Instr × Nat) := [(0, .aload_n 3, 1), (1, .iconst 0, 1), (2, .aload_n 0, 1), (3, .iload_n 1, 1), (4, .iload_n 2, 1), (5, .invokevirtual 43, 3), (8, .i2l, 1), (9, .lastore, 1), (10, .goto 7, 3), (13, .astore 4, 2), (15, .iconst 1, 1), (16, .ireturn, 1), (17, .iconst 0, 1), (18, .ireturn, 1)]
theorem oa_VectorSolverLaw_thing : (cd_VectorSolverLaw_thing.all fun q => decide (decode method_11_code q.1 = .ok q.2)) = true := by decide +kernel
theorem o_VectorSolverLaw_thing (i : Nat) {pc : Nat} {ins : Instr} {len : Nat} (h : cd_VectorSolverLaw_thing[i]? = some (pc, ins, len)) : decode method_11_code pc = .ok (ins, len) := xo oa_VectorSolverLaw_thing h
theorem y_VectorSolverLaw_thing : xYc Y_VectorSolverLaw_thing 4 := ⟨(lw_i6 (List.mem_of_getElem? (i := 170) rfl)), (lw_i1 (List.mem_of_getElem? (i := 0) rfl)), ⟨by decide, by decide⟩, by decide +kernel, by decide⟩
theorem st_VectorSolverLaw_thing : Cond.static Y_VectorSolverLaw_thing.1 ∈ lw_gd := (lw_i6 (List.mem_of_getElem? (i := 169) rfl))
abbrev Y_VectorSolverLaw_count : xMth := (⟨"VectorSolverLaw", "count", "(LVectorSolver;I[J)I"⟩, method_12_code, 4, some .int, [(0, 9, 12, 19)])
def cd_VectorSolverLaw_count : List (Nat × Instr × Nat) := [(0, .aload_n 2, 1), (1, .iconst 0, 1), (2, .aload_n 0, 1), (3, .iload_n 1, 1), (4, .invokevirtual 47, 3), (7, .i2l, 1), (8, .lastore, 1), (9, .goto 6, 3), (12, .astore_n 3, 1), (13, .iconst 1, 1), (14, .ireturn, 1), (15, .iconst 0, 1), (16, .ireturn, 1)]
theorem oa_VectorSolverLaw_count : (cd_VectorSolverLaw_count.all fun q => decide (decode method_12_code q.1 = .ok q.2)) = true := by decide +kernel
theorem o_VectorSolverLaw_count (i : Nat) {pc : Nat} {ins : Instr} {len : Nat} (h : cd_VectorSolverLaw_count[i]? = some (pc, ins, len)) : decode method_12_code pc = .ok (ins, len) := xo oa_VectorSolverLaw_count h
theorem y_VectorSolverLaw_count : xYc Y_VectorSolverLaw_count 3 := ⟨(lw_i6 (List.mem_of_getElem? (i := 180) rfl)), (lw_i1 (List.mem_of_getElem? (i := 0) rfl)), ⟨by decide, by decide⟩, by decide +kernel, by decide⟩
theorem st_VectorSolverLaw_count : Cond.static Y_VectorSolverLaw_count.1 ∈ lw_gd := (lw_i6 (List.mem_of_getElem? (i := 179) rfl))
theorem f_VectorSolver_28 : xFl "VectorSolver" 28 0 2 := ⟨_, _, _, rfl, by decide, rfl, (lw_i2 (List.mem_of_getElem? (i := 233) rfl))⟩
theorem f_Reader_67 : xFl "VectorSolver$Reader" 67 1 1 := ⟨_, _, _, rfl, by decide, rfl, (lw_i1 (List.mem_of_getElem? (i := 95) rfl))⟩
theorem m_VectorSolver_76 : Cond.methodLink "VectorSolver" 76 Y_Reader_wholeText.1 ∈ lw_gd := (lw_i3 (List.mem_of_getElem? (i := 26) rfl))
theorem m_Reader_43 : Cond.methodLink "VectorSolver$Reader" 43 Y_Text_split.1 ∈ lw_gd := (lw_i3 (List.mem_of_getElem? (i := 31) rfl))
theorem m_Reader_48 : Cond.methodLink "VectorSolver$Reader" 48 Y_Book_keep.1 ∈ lw_gd := (lw_i3 (List.mem_of_getElem? (i := 132) rfl))
theorem m_Reader_58 : Cond.methodLink "VectorSolver$Reader" 58 Y_Reader_commands.1 ∈ lw_gd := (lw_i3 (List.mem_of_getElem? (i := 136) rfl))
theorem m_Reader_64 : Cond.methodLink "VectorSolver$Reader" 64 Y_Book_goBack.1 ∈ lw_gd := (lw_i4 (List.mem_of_getElem? (i := 163) rfl))
theorem m_VectorSolverLaw_7 : Cond.methodLink "VectorSolverLaw" 7 Y_VectorSolver_feed.1 ∈ lw_gd := (lw_i4 (List.mem_of_getElem? (i := 179) rfl))
theorem m_VectorSolverLaw_15 : Cond.methodLink "VectorSolverLaw" 15 Y_VectorSolver_trim.1 ∈ lw_gd := (lw_i4 (List.mem_of_getElem? (i := 195) rfl))
theorem m_VectorSolverLaw_21 : Cond.methodLink "VectorSolverLaw" 21 Y_VectorSolver_fault.1 ∈ lw_gd := (lw_i4 (List.mem_of_getElem? (i := 218) rfl))
theorem m_VectorSolverLaw_24 : Cond.methodLink "VectorSolverLaw" 24 Y_VectorSolver_check.1 ∈ lw_gd := (lw_i4 (List.mem_of_getElem? (i := 226) rfl))
theorem m_VectorSolverLaw_28 : Cond.methodLink "VectorSolverLaw" 28 Y_VectorSolver_more.1 ∈ lw_gd := (lw_i6 (List.mem_of_getElem? (i := 118) rfl))
theorem m_VectorSolverLaw_31 : Cond.methodLink "VectorSolverLaw" 31 Y_VectorSolver_suppose.1 ∈ lw_gd := (lw_i6 (List.mem_of_getElem? (i := 129) rfl))
theorem m_VectorSolverLaw_35 : Cond.methodLink "VectorSolverLaw" 35 Y_VectorSolver_value.1 ∈ lw_gd := (lw_i6 (List.mem_of_getElem? (i := 142) rfl))
theorem m_VectorSolverLaw_39 : Cond.methodLink "VectorSolverLaw" 39 Y_VectorSolver_named.1 ∈ lw_gd := (lw_i6 (List.mem_of_getElem? (i := 161) rfl))
theorem m_VectorSolverLaw_43 : Cond.methodLink "VectorSolverLaw" 43 Y_VectorSolver_thing.1 ∈ lw_gd := (lw_i6 (List.mem_of_getElem? (i := 171) rfl))
theorem m_VectorSolverLaw_47 : Cond.methodLink "VectorSolverLaw" 47 Y_VectorSolver_count.1 ∈ lw_gd := (lw_i6 (List.mem_of_getElem? (i := 181) rfl))
theorem cw_Reader_62 : Cond.classLink "VectorSolver$Reader" 62 (xexc.getD 0 "") ∈ lw_gd := (lw_i3 (List.mem_of_getElem? (i := 30) rfl))
theorem cw_VectorSolverLaw_13 : Cond.classLink "VectorSolverLaw" 13 (xexc.getD 0 "") ∈ lw_gd := (lw_i4 (List.mem_of_getElem? (i := 178) rfl))
theorem cw_VectorSolverLaw_19 : Cond.classLink "VectorSolverLaw" 19 (xexc.getD 1 "") ∈ lw_gd := (lw_i4 (List.mem_of_getElem? (i := 194) rfl))
