abbrev Y_Preconditions_checkIndex : xMth := (⟨"jdk/internal/util/Preconditions", "checkIndex", "(IILjava/util/function/BiFunction;)I"⟩, prog_26_method_11_code, 3, some .int, [])
def cd_Preconditions_checkIndex : List (Nat × Instr × Nat) := [(0, .iload_n 0, 1), (1, .ifCond .lt 8, 3), (4, .iload_n 0, 1), (5, .iload_n 1, 1), (6, .if_icmp .lt 10, 3), (9, .aload_n 2, 1), (10, .iload_n 0, 1), (11, .iload_n 1, 1), (12, .invokestatic 95, 3), (15, .athrow, 1), (16, .iload_n 0, 1), (17, .ireturn, 1)]
theorem oa_Preconditions_checkIndex : (cd_Preconditions_checkIndex.all fun q => decide (decode prog_26_method_11_code q.1 = .ok q.2)) = true := by decide +kernel
theorem o_Preconditions_checkIndex (i : Nat) {pc : Nat} {ins : Instr} {len : Nat} (h : cd_Preconditions_checkIndex[i]? = some (pc, ins, len)) : decode prog_26_method_11_code pc = .ok (ins, len) := xo oa_Preconditions_checkIndex h
theorem y_Preconditions_checkIndex : xYc Y_Preconditions_checkIndex 3 := ⟨(lw_i1 (List.mem_of_getElem? (i := 71) rfl)), (lw_i1 (List.mem_of_getElem? (i := 5) rfl)), ⟨by decide, by decide⟩, by decide +kernel, by decide⟩
theorem st_Preconditions_checkIndex : Cond.static Y_Preconditions_checkIndex.1 ∈ lw_gd := (lw_i1 (List.mem_of_getElem? (i := 70) rfl))
abbrev Y_Math_max : xMth := (⟨"java/lang/Math", "max", "(II)I"⟩, prog_20_method_65_code, 2, some .int, [])
def cd_Math_max : List (Nat × Instr × Nat) := [(0, .iload_n 0, 1), (1, .iload_n 1, 1), (2, .if_icmp .lt 7, 3), (5, .iload_n 0, 1), (6, .goto 4, 3), (9, .iload_n 1, 1), (10, .ireturn, 1)]
theorem oa_Math_max : (cd_Math_max.all fun q => decide (decode prog_20_method_65_code q.1 = .ok q.2)) = true := by decide +kernel
theorem o_Math_max (i : Nat) {pc : Nat} {ins : Instr} {len : Nat} (h : cd_Math_max[i]? = some (pc, ins, len)) : decode prog_20_method_65_code pc = .ok (ins, len) := xo oa_Math_max h
theorem y_Math_max : xYc Y_Math_max 2 := ⟨(lw_i3 (List.mem_of_getElem? (i := 67) rfl)), (lw_i1 (List.mem_of_getElem? (i := 20) rfl)), ⟨by decide, by decide⟩, by decide +kernel, by decide⟩
theorem st_Math_max : Cond.static Y_Math_max.1 ∈ lw_gd := (lw_i3 (List.mem_of_getElem? (i := 66) rfl))
abbrev Y_String_length : xMth := (⟨"java/lang/String", "length", "()I"⟩, prog_22_method_54_code, 1, some .int, [])
def cd_String_length : List (Nat × Instr × Nat) := [(0, .aload_n 0, 1), (1, .getfield 9, 3), (4, .arraylength, 1), (5, .aload_n 0, 1), (6, .invokevirtual 335, 3), (9, .ishr, 1), (10, .ireturn, 1)]
theorem oa_String_length : (cd_String_length.all fun q => decide (decode prog_22_method_54_code q.1 = .ok q.2)) = true := by decide +kernel
theorem o_String_length (i : Nat) {pc : Nat} {ins : Instr} {len : Nat} (h : cd_String_length[i]? = some (pc, ins, len)) : decode prog_22_method_54_code pc = .ok (ins, len) := xo oa_String_length h
theorem y_String_length : xYc Y_String_length 0 := ⟨(lw_i1 (List.mem_of_getElem? (i := 46) rfl)), (lw_i1 (List.mem_of_getElem? (i := 3) rfl)), ⟨by decide, by decide⟩, by decide +kernel, by decide⟩
theorem im_String_length : Cond.instanceMethod Y_String_length.1 ∈ lw_gd := (lw_i1 (List.mem_of_getElem? (i := 44) rfl))
theorem se_String_length : Cond.selects Y_String_length.1.cls Y_String_length.1 Y_String_length.1 ∈ lw_gd := (lw_i1 (List.mem_of_getElem? (i := 45) rfl))
abbrev Y_String_coder : xMth := (⟨"java/lang/String", "coder", "()B"⟩, prog_22_method_152_code, 1, some .byte, [])
def cd_String_coder : List (Nat × Instr × Nat) := [(0, .getstatic 38, 3), (3, .ifCond .eq 10, 3), (6, .aload_n 0, 1), (7, .getfield 15, 3), (10, .goto 4, 3), (13, .iconst 1, 1), (14, .ireturn, 1)]
theorem oa_String_coder : (cd_String_coder.all fun q => decide (decode prog_22_method_152_code q.1 = .ok q.2)) = true := by decide +kernel
theorem o_String_coder (i : Nat) {pc : Nat} {ins : Instr} {len : Nat} (h : cd_String_coder[i]? = some (pc, ins, len)) : decode prog_22_method_152_code pc = .ok (ins, len) := xo oa_String_coder h
theorem y_String_coder : xYc Y_String_coder 0 := ⟨(lw_i1 (List.mem_of_getElem? (i := 50) rfl)), (lw_i1 (List.mem_of_getElem? (i := 3) rfl)), ⟨by decide, by decide⟩, by decide +kernel, by decide⟩
theorem im_String_coder : Cond.instanceMethod Y_String_coder.1 ∈ lw_gd := (lw_i1 (List.mem_of_getElem? (i := 48) rfl))
theorem se_String_coder : Cond.selects Y_String_coder.1.cls Y_String_coder.1 Y_String_coder.1 ∈ lw_gd := (lw_i1 (List.mem_of_getElem? (i := 49) rfl))
abbrev Y_String_charAt : xMth := (⟨"java/lang/String", "charAt", "(I)C"⟩, prog_22_method_56_code, 2, some .char, [])
def cd_String_charAt : List (Nat × Instr × Nat) := [(0, .aload_n 0, 1), (1, .invokevirtual 492, 3), (4, .ifCond .eq 12, 3), (7, .aload_n 0, 1), (8, .getfield 9, 3), (11, .iload_n 1, 1), (12, .invokestatic 495, 3), (15, .ireturn, 1), (16, .aload_n 0, 1), (17, .getfield 9, 3), (20, .iload_n 1, 1), (21, .invokestatic 498, 3), (24, .ireturn, 1)]
theorem oa_String_charAt : (cd_String_charAt.all fun q => decide (decode prog_22_method_56_code q.1 = .ok q.2)) = true := by decide +kernel
theorem o_String_charAt (i : Nat) {pc : Nat} {ins : Instr} {len : Nat} (h : cd_String_charAt[i]? = some (pc, ins, len)) : decode prog_22_method_56_code pc = .ok (ins, len) := xo oa_String_charAt h
theorem y_String_charAt : xYc Y_String_charAt 1 := ⟨(lw_i1 (List.mem_of_getElem? (i := 56) rfl)), (lw_i1 (List.mem_of_getElem? (i := 3) rfl)), ⟨by decide, by decide⟩, by decide +kernel, by decide⟩
theorem im_String_charAt : Cond.instanceMethod Y_String_charAt.1 ∈ lw_gd := (lw_i1 (List.mem_of_getElem? (i := 54) rfl))
theorem se_String_charAt : Cond.selects Y_String_charAt.1.cls Y_String_charAt.1 Y_String_charAt.1 ∈ lw_gd := (lw_i1 (List.mem_of_getElem? (i := 55) rfl))
abbrev Y_String_checkIndex : xMth := (⟨"java/lang/String", "checkIndex", "(II)V"⟩, prog_22_method_155_code, 2, none, [])
def cd_String_checkIndex : List (Nat × Instr × Nat) := [(0, .iload_n 0, 1), (1, .iload_n 1, 1), (2, .getstatic 1053, 3), (5, .invokestatic 1059, 3), (8, .pop, 1), (9, .return_, 1)]
theorem oa_String_checkIndex : (cd_String_checkIndex.all fun q => decide (decode prog_22_method_155_code q.1 = .ok q.2)) = true := by decide +kernel
theorem o_String_checkIndex (i : Nat) {pc : Nat} {ins : Instr} {len : Nat} (h : cd_String_checkIndex[i]? = some (pc, ins, len)) : decode prog_22_method_155_code pc = .ok (ins, len) := xo oa_String_checkIndex h
theorem y_String_checkIndex : xYc Y_String_checkIndex 2 := ⟨(lw_i1 (List.mem_of_getElem? (i := 66) rfl)), (lw_i1 (List.mem_of_getElem? (i := 3) rfl)), ⟨by decide, by decide⟩, by decide +kernel, by decide⟩
theorem st_String_checkIndex : Cond.static Y_String_checkIndex.1 ∈ lw_gd := (lw_i1 (List.mem_of_getElem? (i := 65) rfl))
abbrev Y_String_isLatin1 : xMth := (⟨"java/lang/String", "isLatin1", "()Z"⟩, prog_22_method_154_code, 1, some .boolean, [])
def cd_String_isLatin1 : List (Nat × Instr × Nat) := [(0, .getstatic 38, 3), (3, .ifCond .eq 14, 3), (6, .aload_n 0, 1), (7, .getfield 15, 3), (10, .ifCond .ne 7, 3), (13, .iconst 1, 1), (14, .goto 4, 3), (17, .iconst 0, 1), (18, .ireturn, 1)]
theorem oa_String_isLatin1 : (cd_String_isLatin1.all fun q => decide (decode prog_22_method_154_code q.1 = .ok q.2)) = true := by decide +kernel
theorem o_String_isLatin1 (i : Nat) {pc : Nat} {ins : Instr} {len : Nat} (h : cd_String_isLatin1[i]? = some (pc, ins, len)) : decode prog_22_method_154_code pc = .ok (ins, len) := xo oa_String_isLatin1 h
theorem y_String_isLatin1 : xYc Y_String_isLatin1 0 := ⟨(lw_i1 (List.mem_of_getElem? (i := 60) rfl)), (lw_i1 (List.mem_of_getElem? (i := 3) rfl)), ⟨by decide, by decide⟩, by decide +kernel, by decide⟩
theorem im_String_isLatin1 : Cond.instanceMethod Y_String_isLatin1.1 ∈ lw_gd := (lw_i1 (List.mem_of_getElem? (i := 58) rfl))
theorem se_String_isLatin1 : Cond.selects Y_String_isLatin1.1.cls Y_String_isLatin1.1 Y_String_isLatin1.1 ∈ lw_gd := (lw_i1 (List.mem_of_getElem? (i := 59) rfl))
abbrev Y_String_indexOf0 : xMth := (⟨"java/lang/String", "indexOf", "(I)I"⟩, prog_22_method_79_code, 2, some .int, [])
def cd_String_indexOf0 : List (Nat × Instr × Nat) := [(0, .aload_n 0, 1), (1, .iload_n 1, 1), (2, .iconst 0, 1), (3, .invokevirtual 633, 3), (6, .ireturn, 1)]
theorem oa_String_indexOf0 : (cd_String_indexOf0.all fun q => decide (decode prog_22_method_79_code q.1 = .ok q.2)) = true := by decide +kernel
theorem o_String_indexOf0 (i : Nat) {pc : Nat} {ins : Instr} {len : Nat} (h : cd_String_indexOf0[i]? = some (pc, ins, len)) : decode prog_22_method_79_code pc = .ok (ins, len) := xo oa_String_indexOf0 h
theorem y_String_indexOf0 : xYc Y_String_indexOf0 1 := ⟨(lw_i3 (List.mem_of_getElem? (i := 53) rfl)), (lw_i1 (List.mem_of_getElem? (i := 3) rfl)), ⟨by decide, by decide⟩, by decide +kernel, by decide⟩
theorem im_String_indexOf0 : Cond.instanceMethod Y_String_indexOf0.1 ∈ lw_gd := (lw_i3 (List.mem_of_getElem? (i := 51) rfl))
theorem se_String_indexOf0 : Cond.selects Y_String_indexOf0.1.cls Y_String_indexOf0.1 Y_String_indexOf0.1 ∈ lw_gd := (lw_i3 (List.mem_of_getElem? (i := 52) rfl))
abbrev Y_String_indexOf1 : xMth := (⟨"java/lang/String", "indexOf", "(II)I"⟩, prog_22_method_80_code, 3, some .int, [])
def cd_String_indexOf1 : List (Nat × Instr × Nat) := [(0, .aload_n 0, 1), (1, .invokevirtual 492, 3), (4, .ifCond .eq 19, 3), (7, .aload_n 0, 1), (8, .getfield 9, 3), (11, .iload_n 1, 1), (12, .iload_n 2, 1), (13, .aload_n 0, 1), (14, .invokevirtual 505, 3), (17, .invokestatic 637, 3), (20, .goto 16, 3), (23, .aload_n 0, 1), (24, .getfield 9, 3), (27, .iload_n 1, 1), (28, .iload_n 2, 1), (29, .aload_n 0, 1), (30, .invokevirtual 505, 3), (33, .invokestatic 640, 3), (36, .ireturn, 1)]
theorem oa_String_indexOf1 : (cd_String_indexOf1.all fun q => decide (decode prog_22_method_80_code q.1 = .ok q.2)) = true := by decide +kernel
theorem o_String_indexOf1 (i : Nat) {pc : Nat} {ins : Instr} {len : Nat} (h : cd_String_indexOf1[i]? = some (pc, ins, len)) : decode prog_22_method_80_code pc = .ok (ins, len) := xo oa_String_indexOf1 h
theorem y_String_indexOf1 : xYc Y_String_indexOf1 2 := ⟨(lw_i3 (List.mem_of_getElem? (i := 57) rfl)), (lw_i1 (List.mem_of_getElem? (i := 3) rfl)), ⟨by decide, by decide⟩, by decide +kernel, by decide⟩
theorem im_String_indexOf1 : Cond.instanceMethod Y_String_indexOf1.1 ∈ lw_gd := (lw_i3 (List.mem_of_getElem? (i := 55) rfl))
theorem se_String_indexOf1 : Cond.selects Y_String_indexOf1.1.cls Y_String_indexOf1.1 Y_String_indexOf1.1 ∈ lw_gd := (lw_i3 (List.mem_of_getElem? (i := 56) rfl))
abbrev Y_StringLatin1_charAt : xMth := (⟨"java/lang/StringLatin1", "charAt", "([BI)C"⟩, prog_23_method_2_code, 2, some .char, [])
def cd_StringLatin1_charAt : List (Nat × Instr × Nat) := [(0, .iload_n 1, 1), (1, .aload_n 0, 1), (2, .arraylength, 1), (3, .invokestatic 9, 3), (6, .aload_n 0, 1), (7, .iload_n 1, 1), (8, .baload, 1), (9, .sipush 255, 3), (12, .iand, 1), (13, .i2c, 1), (14, .ireturn, 1)]
theorem oa_StringLatin1_charAt : (cd_StringLatin1_charAt.all fun q => decide (decode prog_23_method_2_code q.1 = .ok q.2)) = true := by decide +kernel
theorem o_StringLatin1_charAt (i : Nat) {pc : Nat} {ins : Instr} {len : Nat} (h : cd_StringLatin1_charAt[i]? = some (pc, ins, len)) : decode prog_23_method_2_code pc = .ok (ins, len) := xo oa_StringLatin1_charAt h
theorem y_StringLatin1_charAt : xYc Y_StringLatin1_charAt 2 := ⟨(lw_i1 (List.mem_of_getElem? (i := 63) rfl)), (lw_i1 (List.mem_of_getElem? (i := 4) rfl)), ⟨by decide, by decide⟩, by decide +kernel, by decide⟩
theorem st_StringLatin1_charAt : Cond.static Y_StringLatin1_charAt.1 ∈ lw_gd := (lw_i1 (List.mem_of_getElem? (i := 62) rfl))
abbrev Y_StringLatin1_indexOf : xMth := (⟨"java/lang/StringLatin1", "indexOf", "([BIII)I"⟩, prog_23_method_22_code, 4, some .int, [])
def cd_StringLatin1_indexOf : List (Nat × Instr × Nat) := [(0, .iload_n 1, 1), (1, .invokestatic 88, 3), (4, .ifCond .ne 5, 3), (7, .iconst (-1), 1), (8, .ireturn, 1), (9, .iload_n 2, 1), (10, .iconst 0, 1), (11, .invokestatic 92, 3), (14, .istore_n 2, 1), (15, .iload_n 3, 1), (16, .aload_n 0, 1), (17, .arraylength, 1), (18, .invokestatic 38, 3), (21, .istore_n 3, 1), (22, .iload_n 2, 1), (23, .iload_n 3, 1), (24, .if_icmp .lt 5, 3), (27, .iconst (-1), 1), (28, .ireturn, 1), (29, .aload_n 0, 1), (30, .iload_n 1, 1), (31, .iload_n 2, 1), (32, .iload_n 3, 1), (33, .invokestatic 95, 3), (36, .ireturn, 1)]
theorem oa_StringLatin1_indexOf : (cd_StringLatin1_indexOf.all fun q => decide (decode prog_23_method_22_code q.1 = .ok q.2)) = true := by decide +kernel
theorem o_StringLatin1_indexOf (i : Nat) {pc : Nat} {ins : Instr} {len : Nat} (h : cd_StringLatin1_indexOf[i]? = some (pc, ins, len)) : decode prog_23_method_22_code pc = .ok (ins, len) := xo oa_StringLatin1_indexOf h
theorem y_StringLatin1_indexOf : xYc Y_StringLatin1_indexOf 4 := ⟨(lw_i3 (List.mem_of_getElem? (i := 61) rfl)), (lw_i1 (List.mem_of_getElem? (i := 4) rfl)), ⟨by decide, by decide⟩, by decide +kernel, by decide⟩
theorem st_StringLatin1_indexOf : Cond.static Y_StringLatin1_indexOf.1 ∈ lw_gd := (lw_i3 (List.mem_of_getElem? (i := 60) rfl))
abbrev Y_StringLatin1_indexOfChar : xMth := (⟨"java/lang/StringLatin1", "indexOfChar", "([BIII)I"⟩, prog_23_method_23_code, 6, some .int, [])
def cd_StringLatin1_indexOfChar : List (Nat × Instr × Nat) := [(0, .iload_n 1, 1), (1, .i2b, 1), (2, .istore 4, 2), (4, .iload_n 2, 1), (5, .istore 5, 2), (7, .iload 5, 2), (9, .iload_n 3, 1), (10, .if_icmp .ge 21, 3), (13, .aload_n 0, 1), (14, .iload 5, 2), (16, .baload, 1), (17, .iload 4, 2), (19, .if_icmp .ne 6, 3), (22, .iload 5, 2), (24, .ireturn, 1), (25, .iinc 5 1, 3), (28, .goto (-21), 3), (31, .iconst (-1), 1), (32, .ireturn, 1)]
theorem oa_StringLatin1_indexOfChar : (cd_StringLatin1_indexOfChar.all fun q => decide (decode prog_23_method_23_code q.1 = .ok q.2)) = true := by decide +kernel
theorem o_StringLatin1_indexOfChar (i : Nat) {pc : Nat} {ins : Instr} {len : Nat} (h : cd_StringLatin1_indexOfChar[i]? = some (pc, ins, len)) : decode prog_23_method_23_code pc = .ok (ins, len) := xo oa_StringLatin1_indexOfChar h
theorem y_StringLatin1_indexOfChar : xYc Y_StringLatin1_indexOfChar 4 := ⟨(lw_i3 (List.mem_of_getElem? (i := 73) rfl)), (lw_i1 (List.mem_of_getElem? (i := 4) rfl)), ⟨by decide, by decide⟩, by decide +kernel, by decide⟩
theorem st_StringLatin1_indexOfChar : Cond.static Y_StringLatin1_indexOfChar.1 ∈ lw_gd := (lw_i3 (List.mem_of_getElem? (i := 72) rfl))
abbrev Y_StringLatin1_canEncode : xMth := (⟨"java/lang/StringLatin1", "canEncode", "(I)Z"⟩, prog_23_method_4_code, 1, some .boolean, [])
def cd_StringLatin1_canEncode : List (Nat × Instr × Nat) := [(0, .iload_n 0, 1), (1, .ifCond .lt 14, 3), (4, .iload_n 0, 1), (5, .sipush 255, 3), (8, .if_icmp .gt 7, 3), (11, .iconst 1, 1), (12, .goto 4, 3), (15, .iconst 0, 1), (16, .ireturn, 1)]
theorem oa_StringLatin1_canEncode : (cd_StringLatin1_canEncode.all fun q => decide (decode prog_23_method_4_code q.1 = .ok q.2)) = true := by decide +kernel
theorem o_StringLatin1_canEncode (i : Nat) {pc : Nat} {ins : Instr} {len : Nat} (h : cd_StringLatin1_canEncode[i]? = some (pc, ins, len)) : decode prog_23_method_4_code pc = .ok (ins, len) := xo oa_StringLatin1_canEncode h
theorem y_StringLatin1_canEncode : xYc Y_StringLatin1_canEncode 1 := ⟨(lw_i3 (List.mem_of_getElem? (i := 64) rfl)), (lw_i1 (List.mem_of_getElem? (i := 4) rfl)), ⟨by decide, by decide⟩, by decide +kernel, by decide⟩
theorem st_StringLatin1_canEncode : Cond.static Y_StringLatin1_canEncode.1 ∈ lw_gd := (lw_i3 (List.mem_of_getElem? (i := 63) rfl))
