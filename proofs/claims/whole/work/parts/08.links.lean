theorem f_VectorSolver_10 : xFl "VectorSolver" 10 0 0 := ⟨_, _, _, rfl, by decide, rfl, (lw_i2 (List.mem_of_getElem? (i := 231) rfl))⟩
theorem f_VectorSolver_19 : xFl "VectorSolver" 19 0 1 := ⟨_, _, _, rfl, by decide, rfl, (lw_i2 (List.mem_of_getElem? (i := 232) rfl))⟩
theorem f_VectorSolver_37 : xFl "VectorSolver" 37 0 3 := ⟨_, _, _, rfl, by decide, rfl, (lw_i2 (List.mem_of_getElem? (i := 234) rfl))⟩
theorem f_VectorSolver_44 : xFl "VectorSolver" 44 0 4 := ⟨_, _, _, rfl, by decide, rfl, (lw_i2 (List.mem_of_getElem? (i := 235) rfl))⟩
theorem f_VectorSolver_49 : xFl "VectorSolver" 49 0 5 := ⟨_, _, _, rfl, by decide, rfl, (lw_i2 (List.mem_of_getElem? (i := 236) rfl))⟩
theorem f_VectorSolver_53 : xFl "VectorSolver" 53 0 6 := ⟨_, _, _, rfl, by decide, rfl, (lw_i2 (List.mem_of_getElem? (i := 237) rfl))⟩
theorem f_VectorSolver_56 : xFl "VectorSolver" 56 1 1 := ⟨_, _, _, rfl, by decide, rfl, (lw_i1 (List.mem_of_getElem? (i := 93) rfl))⟩
theorem f_VectorSolver_80 : xFl "VectorSolver" 80 1 2 := ⟨_, _, _, rfl, by decide, rfl, (lw_i1 (List.mem_of_getElem? (i := 97) rfl))⟩
theorem f_VectorSolver_83 : xFl "VectorSolver" 83 1 3 := ⟨_, _, _, rfl, by decide, rfl, (lw_i1 (List.mem_of_getElem? (i := 99) rfl))⟩
theorem f_VectorSolver_102 : xFl "VectorSolver" 102 2 0 := ⟨_, _, _, rfl, by decide, rfl, (lw_i2 (List.mem_of_getElem? (i := 1) rfl))⟩
theorem f_VectorSolver_106 : xFl "VectorSolver" 106 3 1 := ⟨_, _, _, rfl, by decide, rfl, (lw_i1 (List.mem_of_getElem? (i := 167) rfl))⟩
theorem f_VectorSolver_126 : xFl "VectorSolver" 126 0 8 := ⟨_, _, _, rfl, by decide, rfl, (lw_i2 (List.mem_of_getElem? (i := 239) rfl))⟩
theorem f_VectorSolver_129 : xFl "VectorSolver" 129 0 7 := ⟨_, _, _, rfl, by decide, rfl, (lw_i2 (List.mem_of_getElem? (i := 238) rfl))⟩
theorem f_VectorSolver_155 : xFl "VectorSolver" 155 6 2 := ⟨_, _, _, rfl, by decide, rfl, (lw_i2 (List.mem_of_getElem? (i := 114) rfl))⟩
theorem f_VectorSolver_159 : xFl "VectorSolver" 159 0 9 := ⟨_, _, _, rfl, by decide, rfl, (lw_i3 (List.mem_of_getElem? (i := 0) rfl))⟩
theorem f_VectorSolver_162 : xFl "VectorSolver" 162 5 17 := ⟨_, _, _, rfl, by decide, rfl, (lw_i2 (List.mem_of_getElem? (i := 190) rfl))⟩
theorem f_VectorSolver_171 : xFl "VectorSolver" 171 2 6 := ⟨_, _, _, rfl, by decide, rfl, (lw_i2 (List.mem_of_getElem? (i := 14) rfl))⟩
theorem f_VectorSolver_176 : xFl "VectorSolver" 176 3 9 := ⟨_, _, _, rfl, by decide, rfl, (lw_i1 (List.mem_of_getElem? (i := 205) rfl))⟩
theorem f_VectorSolver_179 : xFl "VectorSolver" 179 2 4 := ⟨_, _, _, rfl, by decide, rfl, (lw_i2 (List.mem_of_getElem? (i := 8) rfl))⟩
theorem f_VectorSolver_182 : xFl "VectorSolver" 182 2 10 := ⟨_, _, _, rfl, by decide, rfl, (lw_i2 (List.mem_of_getElem? (i := 28) rfl))⟩
theorem f_VectorSolver_185 : xFl "VectorSolver" 185 2 8 := ⟨_, _, _, rfl, by decide, rfl, (lw_i2 (List.mem_of_getElem? (i := 20) rfl))⟩
theorem f_VectorSolver_188 : xFl "VectorSolver" 188 3 10 := ⟨_, _, _, rfl, by decide, rfl, (lw_i1 (List.mem_of_getElem? (i := 208) rfl))⟩
theorem f_VectorSolver_195 : xFl "VectorSolver" 195 2 3 := ⟨_, _, _, rfl, by decide, rfl, (lw_i2 (List.mem_of_getElem? (i := 6) rfl))⟩
theorem f_VectorSolver_200 : xFl "VectorSolver" 200 2 5 := ⟨_, _, _, rfl, by decide, rfl, (lw_i2 (List.mem_of_getElem? (i := 12) rfl))⟩
theorem f_VectorSolver_215 : xFl "VectorSolver" 215 2 9 := ⟨_, _, _, rfl, by decide, rfl, (lw_i2 (List.mem_of_getElem? (i := 24) rfl))⟩
theorem f_Book_12 : xFl "VectorSolver$Book" 12 2 0 := ⟨_, _, _, rfl, by decide, rfl, (lw_i1 (List.mem_of_getElem? (i := 235) rfl))⟩
theorem f_Book_19 : xFl "VectorSolver$Book" 19 2 1 := ⟨_, _, _, rfl, by decide, rfl, (lw_i2 (List.mem_of_getElem? (i := 2) rfl))⟩
theorem f_Book_23 : xFl "VectorSolver$Book" 23 2 2 := ⟨_, _, _, rfl, by decide, rfl, (lw_i2 (List.mem_of_getElem? (i := 3) rfl))⟩
theorem f_Book_27 : xFl "VectorSolver$Book" 27 2 3 := ⟨_, _, _, rfl, by decide, rfl, (lw_i2 (List.mem_of_getElem? (i := 4) rfl))⟩
theorem f_Book_30 : xFl "VectorSolver$Book" 30 2 5 := ⟨_, _, _, rfl, by decide, rfl, (lw_i2 (List.mem_of_getElem? (i := 9) rfl))⟩
theorem f_Book_33 : xFl "VectorSolver$Book" 33 2 6 := ⟨_, _, _, rfl, by decide, rfl, (lw_i2 (List.mem_of_getElem? (i := 13) rfl))⟩
theorem f_Book_36 : xFl "VectorSolver$Book" 36 2 7 := ⟨_, _, _, rfl, by decide, rfl, (lw_i2 (List.mem_of_getElem? (i := 15) rfl))⟩
theorem f_Book_42 : xFl "VectorSolver$Book" 42 2 11 := ⟨_, _, _, rfl, by decide, rfl, (lw_i2 (List.mem_of_getElem? (i := 29) rfl))⟩
theorem f_Book_45 : xFl "VectorSolver$Book" 45 2 8 := ⟨_, _, _, rfl, by decide, rfl, (lw_i2 (List.mem_of_getElem? (i := 17) rfl))⟩
theorem f_Book_49 : xFl "VectorSolver$Book" 49 3 9 := ⟨_, _, _, rfl, by decide, rfl, (lw_i1 (List.mem_of_getElem? (i := 204) rfl))⟩
theorem f_Book_52 : xFl "VectorSolver$Book" 52 3 10 := ⟨_, _, _, rfl, by decide, rfl, (lw_i1 (List.mem_of_getElem? (i := 207) rfl))⟩
theorem f_Book_55 : xFl "VectorSolver$Book" 55 2 4 := ⟨_, _, _, rfl, by decide, rfl, (lw_i2 (List.mem_of_getElem? (i := 7) rfl))⟩
theorem f_Book_58 : xFl "VectorSolver$Book" 58 2 10 := ⟨_, _, _, rfl, by decide, rfl, (lw_i2 (List.mem_of_getElem? (i := 26) rfl))⟩
theorem f_Book_61 : xFl "VectorSolver$Book" 61 1 0 := ⟨_, _, _, rfl, by decide, rfl, (lw_i1 (List.mem_of_getElem? (i := 92) rfl))⟩
theorem f_Book_66 : xFl "VectorSolver$Book" 66 3 4 := ⟨_, _, _, rfl, by decide, rfl, (lw_i1 (List.mem_of_getElem? (i := 185) rfl))⟩
theorem f_Book_69 : xFl "VectorSolver$Book" 69 3 1 := ⟨_, _, _, rfl, by decide, rfl, (lw_i1 (List.mem_of_getElem? (i := 168) rfl))⟩
theorem f_Book_78 : xFl "VectorSolver$Book" 78 1 11 := ⟨_, _, _, rfl, by decide, rfl, (lw_i1 (List.mem_of_getElem? (i := 112) rfl))⟩
theorem f_Book_81 : xFl "VectorSolver$Book" 81 1 10 := ⟨_, _, _, rfl, by decide, rfl, (lw_i1 (List.mem_of_getElem? (i := 109) rfl))⟩
theorem f_Checker_9 : xFl "VectorSolver$Checker" 9 8 2 := ⟨_, _, _, rfl, by decide, rfl, (lw_i2 (List.mem_of_getElem? (i := 158) rfl))⟩
theorem f_Checker_15 : xFl "VectorSolver$Checker" 15 8 3 := ⟨_, _, _, rfl, by decide, rfl, (lw_i2 (List.mem_of_getElem? (i := 159) rfl))⟩
theorem f_Checker_18 : xFl "VectorSolver$Checker" 18 8 4 := ⟨_, _, _, rfl, by decide, rfl, (lw_i2 (List.mem_of_getElem? (i := 160) rfl))⟩
theorem f_Checker_22 : xFl "VectorSolver$Checker" 22 8 0 := ⟨_, _, _, rfl, by decide, rfl, (lw_i2 (List.mem_of_getElem? (i := 156) rfl))⟩
theorem f_Checker_32 : xFl "VectorSolver$Checker" 32 8 1 := ⟨_, _, _, rfl, by decide, rfl, (lw_i2 (List.mem_of_getElem? (i := 157) rfl))⟩
theorem f_Checker_33 : xFl "VectorSolver$Checker" 33 2 8 := ⟨_, _, _, rfl, by decide, rfl, (lw_i2 (List.mem_of_getElem? (i := 18) rfl))⟩
theorem f_Checker_37 : xFl "VectorSolver$Checker" 37 2 5 := ⟨_, _, _, rfl, by decide, rfl, (lw_i2 (List.mem_of_getElem? (i := 10) rfl))⟩
theorem f_Checker_45 : xFl "VectorSolver$Checker" 45 3 6 := ⟨_, _, _, rfl, by decide, rfl, (lw_i1 (List.mem_of_getElem? (i := 192) rfl))⟩
theorem f_Checker_58 : xFl "VectorSolver$Checker" 58 3 7 := ⟨_, _, _, rfl, by decide, rfl, (lw_i1 (List.mem_of_getElem? (i := 198) rfl))⟩
theorem f_Checker_61 : xFl "VectorSolver$Checker" 61 3 2 := ⟨_, _, _, rfl, by decide, rfl, (lw_i1 (List.mem_of_getElem? (i := 173) rfl))⟩
theorem f_Checker_68 : xFl "VectorSolver$Checker" 68 3 0 := ⟨_, _, _, rfl, by decide, rfl, (lw_i1 (List.mem_of_getElem? (i := 162) rfl))⟩
theorem f_Checker_71 : xFl "VectorSolver$Checker" 71 3 5 := ⟨_, _, _, rfl, by decide, rfl, (lw_i1 (List.mem_of_getElem? (i := 190) rfl))⟩
theorem f_Checker_74 : xFl "VectorSolver$Checker" 74 3 3 := ⟨_, _, _, rfl, by decide, rfl, (lw_i1 (List.mem_of_getElem? (i := 180) rfl))⟩
theorem f_Checker_167 : xFl "VectorSolver$Checker" 167 3 1 := ⟨_, _, _, rfl, by decide, rfl, (lw_i1 (List.mem_of_getElem? (i := 170) rfl))⟩
theorem f_Checker_170 : xFl "VectorSolver$Checker" 170 3 4 := ⟨_, _, _, rfl, by decide, rfl, (lw_i1 (List.mem_of_getElem? (i := 187) rfl))⟩
theorem f_Evaluator_9 : xFl "VectorSolver$Evaluator" 9 6 2 := ⟨_, _, _, rfl, by decide, rfl, (lw_i2 (List.mem_of_getElem? (i := 112) rfl))⟩
theorem f_Evaluator_15 : xFl "VectorSolver$Evaluator" 15 6 0 := ⟨_, _, _, rfl, by decide, rfl, (lw_i2 (List.mem_of_getElem? (i := 110) rfl))⟩
theorem f_Evaluator_25 : xFl "VectorSolver$Evaluator" 25 6 1 := ⟨_, _, _, rfl, by decide, rfl, (lw_i2 (List.mem_of_getElem? (i := 111) rfl))⟩
theorem f_Evaluator_34 : xFl "VectorSolver$Evaluator" 34 2 8 := ⟨_, _, _, rfl, by decide, rfl, (lw_i2 (List.mem_of_getElem? (i := 19) rfl))⟩
theorem f_Evaluator_38 : xFl "VectorSolver$Evaluator" 38 2 5 := ⟨_, _, _, rfl, by decide, rfl, (lw_i2 (List.mem_of_getElem? (i := 11) rfl))⟩
theorem f_Evaluator_46 : xFl "VectorSolver$Evaluator" 46 3 6 := ⟨_, _, _, rfl, by decide, rfl, (lw_i1 (List.mem_of_getElem? (i := 194) rfl))⟩
theorem f_Evaluator_51 : xFl "VectorSolver$Evaluator" 51 3 0 := ⟨_, _, _, rfl, by decide, rfl, (lw_i1 (List.mem_of_getElem? (i := 161) rfl))⟩
theorem f_Evaluator_54 : xFl "VectorSolver$Evaluator" 54 3 5 := ⟨_, _, _, rfl, by decide, rfl, (lw_i1 (List.mem_of_getElem? (i := 189) rfl))⟩
theorem f_Evaluator_57 : xFl "VectorSolver$Evaluator" 57 3 2 := ⟨_, _, _, rfl, by decide, rfl, (lw_i1 (List.mem_of_getElem? (i := 175) rfl))⟩
theorem f_Evaluator_64 : xFl "VectorSolver$Evaluator" 64 3 3 := ⟨_, _, _, rfl, by decide, rfl, (lw_i1 (List.mem_of_getElem? (i := 179) rfl))⟩
theorem f_Evaluator_87 : xFl "VectorSolver$Evaluator" 87 3 4 := ⟨_, _, _, rfl, by decide, rfl, (lw_i1 (List.mem_of_getElem? (i := 184) rfl))⟩
theorem f_Evaluator_90 : xFl "VectorSolver$Evaluator" 90 3 1 := ⟨_, _, _, rfl, by decide, rfl, (lw_i1 (List.mem_of_getElem? (i := 165) rfl))⟩
theorem f_Learner_9 : xFl "VectorSolver$Learner" 9 7 4 := ⟨_, _, _, rfl, by decide, rfl, (lw_i2 (List.mem_of_getElem? (i := 132) rfl))⟩
theorem f_Learner_15 : xFl "VectorSolver$Learner" 15 7 0 := ⟨_, _, _, rfl, by decide, rfl, (lw_i2 (List.mem_of_getElem? (i := 128) rfl))⟩
theorem f_Learner_25 : xFl "VectorSolver$Learner" 25 7 1 := ⟨_, _, _, rfl, by decide, rfl, (lw_i2 (List.mem_of_getElem? (i := 129) rfl))⟩
theorem f_Learner_26 : xFl "VectorSolver$Learner" 26 7 2 := ⟨_, _, _, rfl, by decide, rfl, (lw_i2 (List.mem_of_getElem? (i := 130) rfl))⟩
theorem f_Learner_29 : xFl "VectorSolver$Learner" 29 7 3 := ⟨_, _, _, rfl, by decide, rfl, (lw_i2 (List.mem_of_getElem? (i := 131) rfl))⟩
theorem f_Learner_33 : xFl "VectorSolver$Learner" 33 7 5 := ⟨_, _, _, rfl, by decide, rfl, (lw_i2 (List.mem_of_getElem? (i := 133) rfl))⟩
theorem f_Learner_37 : xFl "VectorSolver$Learner" 37 7 6 := ⟨_, _, _, rfl, by decide, rfl, (lw_i2 (List.mem_of_getElem? (i := 134) rfl))⟩
theorem f_Learner_44 : xFl "VectorSolver$Learner" 44 3 7 := ⟨_, _, _, rfl, by decide, rfl, (lw_i1 (List.mem_of_getElem? (i := 197) rfl))⟩
theorem f_Learner_49 : xFl "VectorSolver$Learner" 49 3 3 := ⟨_, _, _, rfl, by decide, rfl, (lw_i1 (List.mem_of_getElem? (i := 177) rfl))⟩
theorem f_Learner_52 : xFl "VectorSolver$Learner" 52 3 2 := ⟨_, _, _, rfl, by decide, rfl, (lw_i1 (List.mem_of_getElem? (i := 172) rfl))⟩
theorem f_Learner_59 : xFl "VectorSolver$Learner" 59 3 0 := ⟨_, _, _, rfl, by decide, rfl, (lw_i1 (List.mem_of_getElem? (i := 159) rfl))⟩
theorem f_Learner_62 : xFl "VectorSolver$Learner" 62 2 7 := ⟨_, _, _, rfl, by decide, rfl, (lw_i2 (List.mem_of_getElem? (i := 16) rfl))⟩
theorem f_Learner_65 : xFl "VectorSolver$Learner" 65 3 4 := ⟨_, _, _, rfl, by decide, rfl, (lw_i1 (List.mem_of_getElem? (i := 182) rfl))⟩
theorem f_Learner_100 : xFl "VectorSolver$Learner" 100 3 6 := ⟨_, _, _, rfl, by decide, rfl, (lw_i1 (List.mem_of_getElem? (i := 195) rfl))⟩
theorem f_Learner_136 : xFl "VectorSolver$Learner" 136 3 8 := ⟨_, _, _, rfl, by decide, rfl, (lw_i1 (List.mem_of_getElem? (i := 201) rfl))⟩
theorem f_Learner_140 : xFl "VectorSolver$Learner" 140 3 1 := ⟨_, _, _, rfl, by decide, rfl, (lw_i1 (List.mem_of_getElem? (i := 169) rfl))⟩
theorem f_Reader_9 : xFl "VectorSolver$Reader" 9 4 3 := ⟨_, _, _, rfl, by decide, rfl, (lw_i2 (List.mem_of_getElem? (i := 64) rfl))⟩
theorem f_Reader_15 : xFl "VectorSolver$Reader" 15 4 5 := ⟨_, _, _, rfl, by decide, rfl, (lw_i2 (List.mem_of_getElem? (i := 66) rfl))⟩
theorem f_Reader_18 : xFl "VectorSolver$Reader" 18 4 6 := ⟨_, _, _, rfl, by decide, rfl, (lw_i2 (List.mem_of_getElem? (i := 67) rfl))⟩
theorem f_Reader_21 : xFl "VectorSolver$Reader" 21 4 7 := ⟨_, _, _, rfl, by decide, rfl, (lw_i2 (List.mem_of_getElem? (i := 68) rfl))⟩
theorem f_Reader_24 : xFl "VectorSolver$Reader" 24 4 8 := ⟨_, _, _, rfl, by decide, rfl, (lw_i2 (List.mem_of_getElem? (i := 69) rfl))⟩
theorem f_Reader_28 : xFl "VectorSolver$Reader" 28 4 0 := ⟨_, _, _, rfl, by decide, rfl, (lw_i2 (List.mem_of_getElem? (i := 61) rfl))⟩
theorem f_Reader_32 : xFl "VectorSolver$Reader" 32 4 1 := ⟨_, _, _, rfl, by decide, rfl, (lw_i2 (List.mem_of_getElem? (i := 62) rfl))⟩
theorem f_Reader_42 : xFl "VectorSolver$Reader" 42 4 2 := ⟨_, _, _, rfl, by decide, rfl, (lw_i2 (List.mem_of_getElem? (i := 63) rfl))⟩
theorem f_Reader_51 : xFl "VectorSolver$Reader" 51 4 4 := ⟨_, _, _, rfl, by decide, rfl, (lw_i2 (List.mem_of_getElem? (i := 65) rfl))⟩
theorem f_Reader_55 : xFl "VectorSolver$Reader" 55 4 9 := ⟨_, _, _, rfl, by decide, rfl, (lw_i2 (List.mem_of_getElem? (i := 70) rfl))⟩
theorem f_Reader_82 : xFl "VectorSolver$Reader" 82 1 12 := ⟨_, _, _, rfl, by decide, rfl, (lw_i1 (List.mem_of_getElem? (i := 113) rfl))⟩
theorem f_Reader_97 : xFl "VectorSolver$Reader" 97 1 9 := ⟨_, _, _, rfl, by decide, rfl, (lw_i1 (List.mem_of_getElem? (i := 106) rfl))⟩
theorem f_Reader_103 : xFl "VectorSolver$Reader" 103 1 10 := ⟨_, _, _, rfl, by decide, rfl, (lw_i1 (List.mem_of_getElem? (i := 108) rfl))⟩
theorem f_Reader_106 : xFl "VectorSolver$Reader" 106 1 11 := ⟨_, _, _, rfl, by decide, rfl, (lw_i1 (List.mem_of_getElem? (i := 111) rfl))⟩
theorem f_Reader_132 : xFl "VectorSolver$Reader" 132 3 1 := ⟨_, _, _, rfl, by decide, rfl, (lw_i1 (List.mem_of_getElem? (i := 166) rfl))⟩
theorem f_Reader_140 : xFl "VectorSolver$Reader" 140 2 10 := ⟨_, _, _, rfl, by decide, rfl, (lw_i2 (List.mem_of_getElem? (i := 27) rfl))⟩
theorem f_Reader_143 : xFl "VectorSolver$Reader" 143 2 9 := ⟨_, _, _, rfl, by decide, rfl, (lw_i2 (List.mem_of_getElem? (i := 23) rfl))⟩
theorem f_Reader_189 : xFl "VectorSolver$Reader" 189 2 3 := ⟨_, _, _, rfl, by decide, rfl, (lw_i2 (List.mem_of_getElem? (i := 5) rfl))⟩
theorem f_Reader_201 : xFl "VectorSolver$Reader" 201 4 10 := ⟨_, _, _, rfl, by decide, rfl, (lw_i2 (List.mem_of_getElem? (i := 71) rfl))⟩
theorem f_Reader_204 : xFl "VectorSolver$Reader" 204 4 11 := ⟨_, _, _, rfl, by decide, rfl, (lw_i2 (List.mem_of_getElem? (i := 72) rfl))⟩
theorem f_Reader_224 : xFl "VectorSolver$Reader" 224 3 0 := ⟨_, _, _, rfl, by decide, rfl, (lw_i1 (List.mem_of_getElem? (i := 163) rfl))⟩
theorem f_Reader_227 : xFl "VectorSolver$Reader" 227 3 4 := ⟨_, _, _, rfl, by decide, rfl, (lw_i1 (List.mem_of_getElem? (i := 186) rfl))⟩
theorem f_Reader_232 : xFl "VectorSolver$Reader" 232 3 9 := ⟨_, _, _, rfl, by decide, rfl, (lw_i1 (List.mem_of_getElem? (i := 206) rfl))⟩
theorem f_Reader_236 : xFl "VectorSolver$Reader" 236 3 10 := ⟨_, _, _, rfl, by decide, rfl, (lw_i1 (List.mem_of_getElem? (i := 209) rfl))⟩
theorem f_Search_9 : xFl "VectorSolver$Search" 9 5 5 := ⟨_, _, _, rfl, by decide, rfl, (lw_i2 (List.mem_of_getElem? (i := 177) rfl))⟩
theorem f_Search_15 : xFl "VectorSolver$Search" 15 5 6 := ⟨_, _, _, rfl, by decide, rfl, (lw_i2 (List.mem_of_getElem? (i := 178) rfl))⟩
theorem f_Search_18 : xFl "VectorSolver$Search" 18 5 8 := ⟨_, _, _, rfl, by decide, rfl, (lw_i2 (List.mem_of_getElem? (i := 180) rfl))⟩
theorem f_Search_21 : xFl "VectorSolver$Search" 21 5 9 := ⟨_, _, _, rfl, by decide, rfl, (lw_i2 (List.mem_of_getElem? (i := 181) rfl))⟩
theorem f_Search_24 : xFl "VectorSolver$Search" 24 5 10 := ⟨_, _, _, rfl, by decide, rfl, (lw_i2 (List.mem_of_getElem? (i := 182) rfl))⟩
theorem f_Search_27 : xFl "VectorSolver$Search" 27 5 11 := ⟨_, _, _, rfl, by decide, rfl, (lw_i2 (List.mem_of_getElem? (i := 183) rfl))⟩
theorem f_Search_31 : xFl "VectorSolver$Search" 31 5 12 := ⟨_, _, _, rfl, by decide, rfl, (lw_i2 (List.mem_of_getElem? (i := 184) rfl))⟩
theorem f_Search_34 : xFl "VectorSolver$Search" 34 5 13 := ⟨_, _, _, rfl, by decide, rfl, (lw_i2 (List.mem_of_getElem? (i := 185) rfl))⟩
theorem f_Search_37 : xFl "VectorSolver$Search" 37 5 14 := ⟨_, _, _, rfl, by decide, rfl, (lw_i2 (List.mem_of_getElem? (i := 186) rfl))⟩
theorem f_Search_40 : xFl "VectorSolver$Search" 40 5 0 := ⟨_, _, _, rfl, by decide, rfl, (lw_i2 (List.mem_of_getElem? (i := 172) rfl))⟩
theorem f_Search_50 : xFl "VectorSolver$Search" 50 5 1 := ⟨_, _, _, rfl, by decide, rfl, (lw_i2 (List.mem_of_getElem? (i := 173) rfl))⟩
theorem f_Search_56 : xFl "VectorSolver$Search" 56 5 2 := ⟨_, _, _, rfl, by decide, rfl, (lw_i2 (List.mem_of_getElem? (i := 174) rfl))⟩
theorem f_Search_62 : xFl "VectorSolver$Search" 62 6 2 := ⟨_, _, _, rfl, by decide, rfl, (lw_i2 (List.mem_of_getElem? (i := 113) rfl))⟩
theorem f_Search_69 : xFl "VectorSolver$Search" 69 5 3 := ⟨_, _, _, rfl, by decide, rfl, (lw_i2 (List.mem_of_getElem? (i := 175) rfl))⟩
theorem f_Search_76 : xFl "VectorSolver$Search" 76 5 4 := ⟨_, _, _, rfl, by decide, rfl, (lw_i2 (List.mem_of_getElem? (i := 176) rfl))⟩
theorem f_Search_80 : xFl "VectorSolver$Search" 80 5 15 := ⟨_, _, _, rfl, by decide, rfl, (lw_i2 (List.mem_of_getElem? (i := 187) rfl))⟩
theorem f_Search_84 : xFl "VectorSolver$Search" 84 5 16 := ⟨_, _, _, rfl, by decide, rfl, (lw_i2 (List.mem_of_getElem? (i := 188) rfl))⟩
theorem f_Search_112 : xFl "VectorSolver$Search" 112 5 17 := ⟨_, _, _, rfl, by decide, rfl, (lw_i2 (List.mem_of_getElem? (i := 189) rfl))⟩
theorem f_Search_118 : xFl "VectorSolver$Search" 118 3 9 := ⟨_, _, _, rfl, by decide, rfl, (lw_i1 (List.mem_of_getElem? (i := 203) rfl))⟩
theorem f_Search_123 : xFl "VectorSolver$Search" 123 3 0 := ⟨_, _, _, rfl, by decide, rfl, (lw_i1 (List.mem_of_getElem? (i := 160) rfl))⟩
theorem f_Search_126 : xFl "VectorSolver$Search" 126 3 6 := ⟨_, _, _, rfl, by decide, rfl, (lw_i1 (List.mem_of_getElem? (i := 193) rfl))⟩
theorem f_Search_129 : xFl "VectorSolver$Search" 129 3 4 := ⟨_, _, _, rfl, by decide, rfl, (lw_i1 (List.mem_of_getElem? (i := 183) rfl))⟩
theorem f_Search_135 : xFl "VectorSolver$Search" 135 3 2 := ⟨_, _, _, rfl, by decide, rfl, (lw_i1 (List.mem_of_getElem? (i := 174) rfl))⟩
theorem f_Search_138 : xFl "VectorSolver$Search" 138 3 3 := ⟨_, _, _, rfl, by decide, rfl, (lw_i1 (List.mem_of_getElem? (i := 178) rfl))⟩
theorem f_Search_141 : xFl "VectorSolver$Search" 141 5 7 := ⟨_, _, _, rfl, by decide, rfl, (lw_i2 (List.mem_of_getElem? (i := 179) rfl))⟩
theorem f_Search_144 : xFl "VectorSolver$Search" 144 2 10 := ⟨_, _, _, rfl, by decide, rfl, (lw_i2 (List.mem_of_getElem? (i := 25) rfl))⟩
theorem f_Search_147 : xFl "VectorSolver$Search" 147 2 9 := ⟨_, _, _, rfl, by decide, rfl, (lw_i2 (List.mem_of_getElem? (i := 22) rfl))⟩
theorem f_Search_166 : xFl "VectorSolver$Search" 166 3 7 := ⟨_, _, _, rfl, by decide, rfl, (lw_i1 (List.mem_of_getElem? (i := 199) rfl))⟩
theorem f_Terms_9 : xFl "VectorSolver$Terms" 9 3 0 := ⟨_, _, _, rfl, by decide, rfl, (lw_i1 (List.mem_of_getElem? (i := 158) rfl))⟩
theorem f_Terms_15 : xFl "VectorSolver$Terms" 15 3 1 := ⟨_, _, _, rfl, by decide, rfl, (lw_i1 (List.mem_of_getElem? (i := 164) rfl))⟩
theorem f_Terms_18 : xFl "VectorSolver$Terms" 18 3 2 := ⟨_, _, _, rfl, by decide, rfl, (lw_i1 (List.mem_of_getElem? (i := 171) rfl))⟩
theorem f_Terms_22 : xFl "VectorSolver$Terms" 22 3 3 := ⟨_, _, _, rfl, by decide, rfl, (lw_i1 (List.mem_of_getElem? (i := 176) rfl))⟩
theorem f_Terms_25 : xFl "VectorSolver$Terms" 25 3 4 := ⟨_, _, _, rfl, by decide, rfl, (lw_i1 (List.mem_of_getElem? (i := 181) rfl))⟩
theorem f_Terms_28 : xFl "VectorSolver$Terms" 28 3 5 := ⟨_, _, _, rfl, by decide, rfl, (lw_i1 (List.mem_of_getElem? (i := 188) rfl))⟩
theorem f_Terms_32 : xFl "VectorSolver$Terms" 32 3 6 := ⟨_, _, _, rfl, by decide, rfl, (lw_i1 (List.mem_of_getElem? (i := 191) rfl))⟩
theorem f_Terms_35 : xFl "VectorSolver$Terms" 35 3 7 := ⟨_, _, _, rfl, by decide, rfl, (lw_i1 (List.mem_of_getElem? (i := 196) rfl))⟩
theorem f_Terms_38 : xFl "VectorSolver$Terms" 38 3 8 := ⟨_, _, _, rfl, by decide, rfl, (lw_i1 (List.mem_of_getElem? (i := 200) rfl))⟩
theorem f_Terms_42 : xFl "VectorSolver$Terms" 42 3 9 := ⟨_, _, _, rfl, by decide, rfl, (lw_i1 (List.mem_of_getElem? (i := 202) rfl))⟩
theorem f_Text_10 : xFl "VectorSolver$Text" 10 1 0 := ⟨_, _, _, rfl, by decide, rfl, (lw_i1 (List.mem_of_getElem? (i := 91) rfl))⟩
theorem f_Text_16 : xFl "VectorSolver$Text" 16 1 3 := ⟨_, _, _, rfl, by decide, rfl, (lw_i1 (List.mem_of_getElem? (i := 98) rfl))⟩
theorem f_Text_21 : xFl "VectorSolver$Text" 21 1 4 := ⟨_, _, _, rfl, by decide, rfl, (lw_i1 (List.mem_of_getElem? (i := 100) rfl))⟩
theorem f_Text_25 : xFl "VectorSolver$Text" 25 1 8 := ⟨_, _, _, rfl, by decide, rfl, (lw_i1 (List.mem_of_getElem? (i := 104) rfl))⟩
theorem f_Text_41 : xFl "VectorSolver$Text" 41 1 1 := ⟨_, _, _, rfl, by decide, rfl, (lw_i1 (List.mem_of_getElem? (i := 94) rfl))⟩
theorem f_Text_43 : xFl "VectorSolver$Text" 43 1 5 := ⟨_, _, _, rfl, by decide, rfl, (lw_i1 (List.mem_of_getElem? (i := 101) rfl))⟩
theorem f_Text_46 : xFl "VectorSolver$Text" 46 1 7 := ⟨_, _, _, rfl, by decide, rfl, (lw_i1 (List.mem_of_getElem? (i := 103) rfl))⟩
theorem f_Text_49 : xFl "VectorSolver$Text" 49 1 11 := ⟨_, _, _, rfl, by decide, rfl, (lw_i1 (List.mem_of_getElem? (i := 110) rfl))⟩
theorem f_Text_52 : xFl "VectorSolver$Text" 52 1 9 := ⟨_, _, _, rfl, by decide, rfl, (lw_i1 (List.mem_of_getElem? (i := 105) rfl))⟩
theorem f_Text_58 : xFl "VectorSolver$Text" 58 1 10 := ⟨_, _, _, rfl, by decide, rfl, (lw_i1 (List.mem_of_getElem? (i := 107) rfl))⟩
theorem f_Text_61 : xFl "VectorSolver$Text" 61 1 12 := ⟨_, _, _, rfl, by decide, rfl, (lw_i1 (List.mem_of_getElem? (i := 114) rfl))⟩
theorem f_Text_70 : xFl "VectorSolver$Text" 70 1 6 := ⟨_, _, _, rfl, by decide, rfl, (lw_i1 (List.mem_of_getElem? (i := 102) rfl))⟩
theorem f_Text_73 : xFl "VectorSolver$Text" 73 1 2 := ⟨_, _, _, rfl, by decide, rfl, (lw_i1 (List.mem_of_getElem? (i := 96) rfl))⟩
theorem f_VectorSolverModel_16 : xFl "VectorSolverModel" 16 9 2 := ⟨_, _, _, rfl, by decide, rfl, (lw_i6 (List.mem_of_getElem? (i := 199) rfl))⟩
theorem f_VectorSolverModel_20 : xFl "VectorSolverModel" 20 9 5 := ⟨_, _, _, rfl, by decide, rfl, (lw_i6 (List.mem_of_getElem? (i := 202) rfl))⟩
theorem f_VectorSolverModel_25 : xFl "VectorSolverModel" 25 9 6 := ⟨_, _, _, rfl, by decide, rfl, (lw_i6 (List.mem_of_getElem? (i := 203) rfl))⟩
theorem f_VectorSolverModel_28 : xFl "VectorSolverModel" 28 9 7 := ⟨_, _, _, rfl, by decide, rfl, (lw_i6 (List.mem_of_getElem? (i := 204) rfl))⟩
theorem f_VectorSolverModel_32 : xFl "VectorSolverModel" 32 9 8 := ⟨_, _, _, rfl, by decide, rfl, (lw_i6 (List.mem_of_getElem? (i := 205) rfl))⟩
theorem f_VectorSolverModel_35 : xFl "VectorSolverModel" 35 9 9 := ⟨_, _, _, rfl, by decide, rfl, (lw_i6 (List.mem_of_getElem? (i := 206) rfl))⟩
theorem f_VectorSolverModel_38 : xFl "VectorSolverModel" 38 9 12 := ⟨_, _, _, rfl, by decide, rfl, (lw_i6 (List.mem_of_getElem? (i := 209) rfl))⟩
theorem f_VectorSolverModel_41 : xFl "VectorSolverModel" 41 9 13 := ⟨_, _, _, rfl, by decide, rfl, (lw_i6 (List.mem_of_getElem? (i := 210) rfl))⟩
theorem f_VectorSolverModel_44 : xFl "VectorSolverModel" 44 9 14 := ⟨_, _, _, rfl, by decide, rfl, (lw_i6 (List.mem_of_getElem? (i := 211) rfl))⟩
theorem f_VectorSolverModel_47 : xFl "VectorSolverModel" 47 9 15 := ⟨_, _, _, rfl, by decide, rfl, (lw_i6 (List.mem_of_getElem? (i := 212) rfl))⟩
theorem f_VectorSolverModel_50 : xFl "VectorSolverModel" 50 9 16 := ⟨_, _, _, rfl, by decide, rfl, (lw_i6 (List.mem_of_getElem? (i := 213) rfl))⟩
theorem f_VectorSolverModel_53 : xFl "VectorSolverModel" 53 9 17 := ⟨_, _, _, rfl, by decide, rfl, (lw_i6 (List.mem_of_getElem? (i := 214) rfl))⟩
theorem f_VectorSolverModel_56 : xFl "VectorSolverModel" 56 9 18 := ⟨_, _, _, rfl, by decide, rfl, (lw_i6 (List.mem_of_getElem? (i := 215) rfl))⟩
theorem f_VectorSolverModel_59 : xFl "VectorSolverModel" 59 9 19 := ⟨_, _, _, rfl, by decide, rfl, (lw_i6 (List.mem_of_getElem? (i := 216) rfl))⟩
theorem f_VectorSolverModel_62 : xFl "VectorSolverModel" 62 9 20 := ⟨_, _, _, rfl, by decide, rfl, (lw_i6 (List.mem_of_getElem? (i := 217) rfl))⟩
theorem f_VectorSolverModel_67 : xFl "VectorSolverModel" 67 9 22 := ⟨_, _, _, rfl, by decide, rfl, (lw_i6 (List.mem_of_getElem? (i := 219) rfl))⟩
theorem f_VectorSolverModel_70 : xFl "VectorSolverModel" 70 9 24 := ⟨_, _, _, rfl, by decide, rfl, (lw_i6 (List.mem_of_getElem? (i := 221) rfl))⟩
theorem f_VectorSolverModel_73 : xFl "VectorSolverModel" 73 9 25 := ⟨_, _, _, rfl, by decide, rfl, (lw_i6 (List.mem_of_getElem? (i := 222) rfl))⟩
theorem f_VectorSolverModel_76 : xFl "VectorSolverModel" 76 9 26 := ⟨_, _, _, rfl, by decide, rfl, (lw_i6 (List.mem_of_getElem? (i := 223) rfl))⟩
theorem f_VectorSolverModel_79 : xFl "VectorSolverModel" 79 9 28 := ⟨_, _, _, rfl, by decide, rfl, (lw_i6 (List.mem_of_getElem? (i := 225) rfl))⟩
theorem f_VectorSolverModel_82 : xFl "VectorSolverModel" 82 9 30 := ⟨_, _, _, rfl, by decide, rfl, (lw_i6 (List.mem_of_getElem? (i := 227) rfl))⟩
theorem f_VectorSolverModel_85 : xFl "VectorSolverModel" 85 9 31 := ⟨_, _, _, rfl, by decide, rfl, (lw_i6 (List.mem_of_getElem? (i := 228) rfl))⟩
theorem f_VectorSolverModel_88 : xFl "VectorSolverModel" 88 9 32 := ⟨_, _, _, rfl, by decide, rfl, (lw_i6 (List.mem_of_getElem? (i := 229) rfl))⟩
theorem f_VectorSolverModel_91 : xFl "VectorSolverModel" 91 9 33 := ⟨_, _, _, rfl, by decide, rfl, (lw_i6 (List.mem_of_getElem? (i := 230) rfl))⟩
theorem f_VectorSolverModel_94 : xFl "VectorSolverModel" 94 9 34 := ⟨_, _, _, rfl, by decide, rfl, (lw_i6 (List.mem_of_getElem? (i := 231) rfl))⟩
theorem f_VectorSolverModel_97 : xFl "VectorSolverModel" 97 9 35 := ⟨_, _, _, rfl, by decide, rfl, (lw_i6 (List.mem_of_getElem? (i := 232) rfl))⟩
theorem f_VectorSolverModel_100 : xFl "VectorSolverModel" 100 9 37 := ⟨_, _, _, rfl, by decide, rfl, (lw_i6 (List.mem_of_getElem? (i := 234) rfl))⟩
theorem f_VectorSolverModel_103 : xFl "VectorSolverModel" 103 9 39 := ⟨_, _, _, rfl, by decide, rfl, (lw_i6 (List.mem_of_getElem? (i := 236) rfl))⟩
theorem f_VectorSolverModel_106 : xFl "VectorSolverModel" 106 9 40 := ⟨_, _, _, rfl, by decide, rfl, (lw_i6 (List.mem_of_getElem? (i := 237) rfl))⟩
theorem f_VectorSolverModel_109 : xFl "VectorSolverModel" 109 9 41 := ⟨_, _, _, rfl, by decide, rfl, (lw_i6 (List.mem_of_getElem? (i := 238) rfl))⟩
theorem f_VectorSolverModel_112 : xFl "VectorSolverModel" 112 9 43 := ⟨_, _, _, rfl, by decide, rfl, (lw_i7 (List.mem_of_getElem? (i := 0) rfl))⟩
theorem f_VectorSolverModel_116 : xFl "VectorSolverModel" 116 9 47 := ⟨_, _, _, rfl, by decide, rfl, (lw_i7 (List.mem_of_getElem? (i := 4) rfl))⟩
theorem f_VectorSolverModel_119 : xFl "VectorSolverModel" 119 9 48 := ⟨_, _, _, rfl, by decide, rfl, (lw_i7 (List.mem_of_getElem? (i := 5) rfl))⟩
theorem f_VectorSolverModel_123 : xFl "VectorSolverModel" 123 9 49 := ⟨_, _, _, rfl, by decide, rfl, (lw_i7 (List.mem_of_getElem? (i := 6) rfl))⟩
theorem f_VectorSolverModel_126 : xFl "VectorSolverModel" 126 9 1 := ⟨_, _, _, rfl, by decide, rfl, (lw_i6 (List.mem_of_getElem? (i := 198) rfl))⟩
theorem f_VectorSolverModel_129 : xFl "VectorSolverModel" 129 9 3 := ⟨_, _, _, rfl, by decide, rfl, (lw_i6 (List.mem_of_getElem? (i := 200) rfl))⟩
theorem f_VectorSolverModel_166 : xFl "VectorSolverModel" 166 9 4 := ⟨_, _, _, rfl, by decide, rfl, (lw_i6 (List.mem_of_getElem? (i := 201) rfl))⟩
theorem f_VectorSolverModel_169 : xFl "VectorSolverModel" 169 9 10 := ⟨_, _, _, rfl, by decide, rfl, (lw_i6 (List.mem_of_getElem? (i := 207) rfl))⟩
theorem f_VectorSolverModel_183 : xFl "VectorSolverModel" 183 9 23 := ⟨_, _, _, rfl, by decide, rfl, (lw_i6 (List.mem_of_getElem? (i := 220) rfl))⟩
theorem f_VectorSolverModel_203 : xFl "VectorSolverModel" 203 9 53 := ⟨_, _, _, rfl, by decide, rfl, (lw_i7 (List.mem_of_getElem? (i := 10) rfl))⟩
theorem f_VectorSolverModel_206 : xFl "VectorSolverModel" 206 9 54 := ⟨_, _, _, rfl, by decide, rfl, (lw_i7 (List.mem_of_getElem? (i := 11) rfl))⟩
theorem f_VectorSolverModel_220 : xFl "VectorSolverModel" 220 9 11 := ⟨_, _, _, rfl, by decide, rfl, (lw_i6 (List.mem_of_getElem? (i := 208) rfl))⟩
theorem f_VectorSolverModel_223 : xFl "VectorSolverModel" 223 9 44 := ⟨_, _, _, rfl, by decide, rfl, (lw_i7 (List.mem_of_getElem? (i := 1) rfl))⟩
theorem f_VectorSolverModel_227 : xFl "VectorSolverModel" 227 9 21 := ⟨_, _, _, rfl, by decide, rfl, (lw_i6 (List.mem_of_getElem? (i := 218) rfl))⟩
theorem f_VectorSolverModel_246 : xFl "VectorSolverModel" 246 9 42 := ⟨_, _, _, rfl, by decide, rfl, (lw_i6 (List.mem_of_getElem? (i := 239) rfl))⟩
theorem f_VectorSolverModel_249 : xFl "VectorSolverModel" 249 9 45 := ⟨_, _, _, rfl, by decide, rfl, (lw_i7 (List.mem_of_getElem? (i := 2) rfl))⟩
theorem f_VectorSolverModel_255 : xFl "VectorSolverModel" 255 9 27 := ⟨_, _, _, rfl, by decide, rfl, (lw_i6 (List.mem_of_getElem? (i := 224) rfl))⟩
theorem f_VectorSolverModel_258 : xFl "VectorSolverModel" 258 9 55 := ⟨_, _, _, rfl, by decide, rfl, (lw_i7 (List.mem_of_getElem? (i := 12) rfl))⟩
theorem f_VectorSolverModel_264 : xFl "VectorSolverModel" 264 9 29 := ⟨_, _, _, rfl, by decide, rfl, (lw_i6 (List.mem_of_getElem? (i := 226) rfl))⟩
theorem f_VectorSolverModel_267 : xFl "VectorSolverModel" 267 9 36 := ⟨_, _, _, rfl, by decide, rfl, (lw_i6 (List.mem_of_getElem? (i := 233) rfl))⟩
theorem f_VectorSolverModel_270 : xFl "VectorSolverModel" 270 9 38 := ⟨_, _, _, rfl, by decide, rfl, (lw_i6 (List.mem_of_getElem? (i := 235) rfl))⟩
theorem f_VectorSolverModel_305 : xFl "VectorSolverModel" 305 9 56 := ⟨_, _, _, rfl, by decide, rfl, (lw_i7 (List.mem_of_getElem? (i := 13) rfl))⟩
theorem f_VectorSolverModel_308 : xFl "VectorSolverModel" 308 9 57 := ⟨_, _, _, rfl, by decide, rfl, (lw_i7 (List.mem_of_getElem? (i := 14) rfl))⟩
theorem f_VectorSolverModel_395 : xFl "VectorSolverModel" 395 9 46 := ⟨_, _, _, rfl, by decide, rfl, (lw_i7 (List.mem_of_getElem? (i := 3) rfl))⟩
theorem f_VectorSolverModel_407 : xFl "VectorSolverModel" 407 9 51 := ⟨_, _, _, rfl, by decide, rfl, (lw_i7 (List.mem_of_getElem? (i := 8) rfl))⟩
theorem f_VectorSolverModel_410 : xFl "VectorSolverModel" 410 9 52 := ⟨_, _, _, rfl, by decide, rfl, (lw_i7 (List.mem_of_getElem? (i := 9) rfl))⟩
theorem f_VectorSolverModel_420 : xFl "VectorSolverModel" 420 9 50 := ⟨_, _, _, rfl, by decide, rfl, (lw_i7 (List.mem_of_getElem? (i := 7) rfl))⟩
theorem m_VectorSolver_67 : Cond.methodLink "VectorSolver" 67 Y_Text_append.1 ∈ lw_gd := (lw_i4 (List.mem_of_getElem? (i := 187) rfl))
theorem m_VectorSolver_88 : Cond.methodLink "VectorSolver" 88 Y_VectorSolver_askForSearch.1 ∈ lw_gd := (lw_i4 (List.mem_of_getElem? (i := 230) rfl))
theorem m_VectorSolver_91 : Cond.methodLink "VectorSolver" 91 Y_VectorSolver_searchFrom.1 ∈ lw_gd := (lw_i5 (List.mem_of_getElem? (i := 3) rfl))
theorem m_VectorSolver_95 : Cond.methodLink "VectorSolver" 95 Y_VectorSolver_grownFound.1 ∈ lw_gd := (lw_i6 (List.mem_of_getElem? (i := 122) rfl))
theorem m_VectorSolver_98 : Cond.methodLink "VectorSolver" 98 Y_VectorSolver_termOfName.1 ∈ lw_gd := (lw_i6 (List.mem_of_getElem? (i := 133) rfl))
theorem m_VectorSolver_114 : Cond.methodLink "VectorSolver" 114 Y_VectorSolver_sortOfThing.1 ∈ lw_gd := (lw_i6 (List.mem_of_getElem? (i := 146) rfl))
theorem m_VectorSolver_117 : Cond.methodLink "VectorSolver" 117 Y_Sorts_cells.1 ∈ lw_gd := (lw_i6 (List.mem_of_getElem? (i := 151) rfl))
theorem m_VectorSolver_132 : Cond.methodLink "VectorSolver" 132 Y_Book_shift.1 ∈ lw_gd := (lw_i6 (List.mem_of_getElem? (i := 156) rfl))
theorem m_VectorSolver_136 : Cond.methodLink "VectorSolver" 136 Y_Sorts_cell.1 ∈ lw_gd := (lw_i6 (List.mem_of_getElem? (i := 157) rfl))
theorem m_VectorSolver_140 : Cond.methodLink "VectorSolver" 140 Y_Sorts_isArray.1 ∈ lw_gd := (lw_i6 (List.mem_of_getElem? (i := 165) rfl))
theorem m_VectorSolver_146 : Cond.methodLink "VectorSolver" 146 Y_Book_size.1 ∈ lw_gd := (lw_i4 (List.mem_of_getElem? (i := 234) rfl))
theorem m_VectorSolver_151 : Cond.methodLink "VectorSolver" 151 Y_Evaluator_evaluate.1 ∈ lw_gd := (lw_i6 (List.mem_of_getElem? (i := 109) rfl))
theorem m_VectorSolver_165 : Cond.methodLink "VectorSolver" 165 Y_Sorts_width.1 ∈ lw_gd := (lw_i6 (List.mem_of_getElem? (i := 175) rfl))
theorem m_VectorSolver_168 : Cond.methodLink "VectorSolver" 168 Y_Sorts_indexWidth.1 ∈ lw_gd := (lw_i6 (List.mem_of_getElem? (i := 176) rfl))
theorem m_VectorSolver_203 : Cond.methodLink "VectorSolver" 203 Y_VectorSolver_effort.1 ∈ lw_gd := (lw_i4 (List.mem_of_getElem? (i := 238) rfl))
theorem m_VectorSolver_208 : Cond.methodLink "VectorSolver" 208 Y_Search_least.1 ∈ lw_gd := (lw_i5 (List.mem_of_getElem? (i := 7) rfl))
theorem m_VectorSolver_212 : Cond.methodLink "VectorSolver" 212 Y_VectorSolver_countFalse.1 ∈ lw_gd := (lw_i6 (List.mem_of_getElem? (i := 105) rfl))
theorem m_Book_72 : Cond.methodLink "VectorSolver$Book" 72 Y_Sorts_size.1 ∈ lw_gd := (lw_i4 (List.mem_of_getElem? (i := 56) rfl))
theorem m_Book_84 : Cond.methodLink "VectorSolver$Book" 84 Y_Book_isName.1 ∈ lw_gd := (lw_i3 (List.mem_of_getElem? (i := 236) rfl))
theorem m_Checker_41 : Cond.methodLink "VectorSolver$Checker" 41 Y_Book_shift.1 ∈ lw_gd := (lw_i5 (List.mem_of_getElem? (i := 225) rfl))
theorem m_Checker_50 : Cond.methodLink "VectorSolver$Checker" 50 Y_Checker_learn.1 ∈ lw_gd := (lw_i5 (List.mem_of_getElem? (i := 226) rfl))
theorem m_Checker_54 : Cond.methodLink "VectorSolver$Checker" 54 Y_Terms_markCone.1 ∈ lw_gd := (lw_i5 (List.mem_of_getElem? (i := 230) rfl))
theorem m_Checker_64 : Cond.methodLink "VectorSolver$Checker" 64 Y_Checker_workOut.1 ∈ lw_gd := (lw_i5 (List.mem_of_getElem? (i := 231) rfl))
theorem m_Checker_79 : Cond.methodLink "VectorSolver$Checker" 79 Y_Checker_workOutAnd.1 ∈ lw_gd := (lw_i5 (List.mem_of_getElem? (i := 236) rfl))
theorem m_Checker_83 : Cond.methodLink "VectorSolver$Checker" 83 Y_Checker_workOutOr.1 ∈ lw_gd := (lw_i6 (List.mem_of_getElem? (i := 0) rfl))
theorem m_Checker_87 : Cond.methodLink "VectorSolver$Checker" 87 Y_Checker_workOutXor.1 ∈ lw_gd := (lw_i6 (List.mem_of_getElem? (i := 4) rfl))
theorem m_Checker_90 : Cond.methodLink "VectorSolver$Checker" 90 Y_Checker_workOutIte.1 ∈ lw_gd := (lw_i6 (List.mem_of_getElem? (i := 8) rfl))
theorem m_Checker_94 : Cond.methodLink "VectorSolver$Checker" 94 Y_Checker_workOutEqual.1 ∈ lw_gd := (lw_i6 (List.mem_of_getElem? (i := 16) rfl))
theorem m_Checker_97 : Cond.methodLink "VectorSolver$Checker" 97 Y_Checker_workOutDistinct.1 ∈ lw_gd := (lw_i6 (List.mem_of_getElem? (i := 32) rfl))
theorem m_Checker_100 : Cond.methodLink "VectorSolver$Checker" 100 Y_Checker_workOutSum.1 ∈ lw_gd := (lw_i6 (List.mem_of_getElem? (i := 36) rfl))
theorem m_Checker_103 : Cond.methodLink "VectorSolver$Checker" 103 Y_Checker_workOutProduct.1 ∈ lw_gd := (lw_i6 (List.mem_of_getElem? (i := 43) rfl))
theorem m_Checker_106 : Cond.methodLink "VectorSolver$Checker" 106 Y_Checker_workOutConcat.1 ∈ lw_gd := (lw_i6 (List.mem_of_getElem? (i := 55) rfl))
theorem m_Checker_109 : Cond.methodLink "VectorSolver$Checker" 109 Y_Checker_workOutOfOne.1 ∈ lw_gd := (lw_i6 (List.mem_of_getElem? (i := 59) rfl))
theorem m_Checker_112 : Cond.methodLink "VectorSolver$Checker" 112 Y_Checker_workOutDifference.1 ∈ lw_gd := (lw_i6 (List.mem_of_getElem? (i := 64) rfl))
theorem m_Checker_116 : Cond.methodLink "VectorSolver$Checker" 116 Y_Checker_workOutDivision.1 ∈ lw_gd := (lw_i6 (List.mem_of_getElem? (i := 68) rfl))
theorem m_Checker_119 : Cond.methodLink "VectorSolver$Checker" 119 Y_Checker_workOutShift.1 ∈ lw_gd := (lw_i6 (List.mem_of_getElem? (i := 73) rfl))
theorem m_Checker_122 : Cond.methodLink "VectorSolver$Checker" 122 Y_Checker_workOutSelect.1 ∈ lw_gd := (lw_i6 (List.mem_of_getElem? (i := 79) rfl))
theorem m_Checker_125 : Cond.methodLink "VectorSolver$Checker" 125 Y_Checker_workOutStore.1 ∈ lw_gd := (lw_i6 (List.mem_of_getElem? (i := 84) rfl))
theorem m_Checker_128 : Cond.methodLink "VectorSolver$Checker" 128 Y_Checker_workOutComparison.1 ∈ lw_gd := (lw_i6 (List.mem_of_getElem? (i := 88) rfl))
theorem m_Checker_131 : Cond.methodLink "VectorSolver$Checker" 131 Y_Checker_isKnown.1 ∈ lw_gd := (lw_i6 (List.mem_of_getElem? (i := 12) rfl))
theorem m_Checker_135 : Cond.methodLink "VectorSolver$Checker" 135 Y_Checker_isSurelySame.1 ∈ lw_gd := (lw_i6 (List.mem_of_getElem? (i := 20) rfl))
theorem m_Checker_139 : Cond.methodLink "VectorSolver$Checker" 139 Y_Checker_isSurelyOther.1 ∈ lw_gd := (lw_i6 (List.mem_of_getElem? (i := 24) rfl))
theorem m_Checker_142 : Cond.methodLink "VectorSolver$Checker" 142 Y_Checker_learnEither.1 ∈ lw_gd := (lw_i6 (List.mem_of_getElem? (i := 28) rfl))
theorem m_Checker_146 : Cond.methodLink "VectorSolver$Checker" 146 Y_Words_lowestRun.1 ∈ lw_gd := (lw_i6 (List.mem_of_getElem? (i := 40) rfl))
theorem m_Checker_152 : Cond.methodLink "VectorSolver$Checker" 152 Y_Long_bitCount.1 ∈ lw_gd := (lw_i6 (List.mem_of_getElem? (i := 47) rfl))
theorem m_Checker_158 : Cond.methodLink "VectorSolver$Checker" 158 Y_Math_min.1 ∈ lw_gd := (lw_i6 (List.mem_of_getElem? (i := 53) rfl))
theorem m_Checker_163 : Cond.methodLink "VectorSolver$Checker" 163 Y_Words_mask.1 ∈ lw_gd := (lw_i6 (List.mem_of_getElem? (i := 54) rfl))
theorem m_Checker_173 : Cond.methodLink "VectorSolver$Checker" 173 Y_Words_signed.1 ∈ lw_gd := (lw_i6 (List.mem_of_getElem? (i := 63) rfl))
theorem m_Checker_177 : Cond.methodLink "VectorSolver$Checker" 177 Y_Words_two.1 ∈ lw_gd := (lw_i6 (List.mem_of_getElem? (i := 72) rfl))
theorem m_Checker_181 : Cond.methodLink "VectorSolver$Checker" 181 Y_Words_signShift.1 ∈ lw_gd := (lw_i6 (List.mem_of_getElem? (i := 77) rfl))
theorem m_Checker_185 : Cond.methodLink "VectorSolver$Checker" 185 Y_Words_less.1 ∈ lw_gd := (lw_i6 (List.mem_of_getElem? (i := 78) rfl))
theorem m_Checker_189 : Cond.methodLink "VectorSolver$Checker" 189 Y_Words_turned.1 ∈ lw_gd := (lw_i6 (List.mem_of_getElem? (i := 92) rfl))
theorem m_Checker_193 : Cond.methodLink "VectorSolver$Checker" 193 Y_Sorts_cellShift.1 ∈ lw_gd := (lw_i6 (List.mem_of_getElem? (i := 83) rfl))
theorem m_Evaluator_26 : Cond.methodLink "VectorSolver$Evaluator" 26 Y_Evaluator_takeThings.1 ∈ lw_gd := (lw_i6 (List.mem_of_getElem? (i := 113) rfl))
theorem m_Evaluator_30 : Cond.methodLink "VectorSolver$Evaluator" 30 Y_Evaluator_workOut.1 ∈ lw_gd := (lw_i6 (List.mem_of_getElem? (i := 114) rfl))
theorem m_Evaluator_42 : Cond.methodLink "VectorSolver$Evaluator" 42 Y_Book_shift.1 ∈ lw_gd := (lw_i5 (List.mem_of_getElem? (i := 44) rfl))
theorem m_Evaluator_60 : Cond.methodLink "VectorSolver$Evaluator" 60 Y_Evaluator_applied.1 ∈ lw_gd := (lw_i5 (List.mem_of_getElem? (i := 57) rfl))
theorem m_Evaluator_69 : Cond.methodLink "VectorSolver$Evaluator" 69 Y_Evaluator_implication.1 ∈ lw_gd := (lw_i5 (List.mem_of_getElem? (i := 62) rfl))
theorem m_Evaluator_73 : Cond.methodLink "VectorSolver$Evaluator" 73 Y_Evaluator_isAllSame.1 ∈ lw_gd := (lw_i5 (List.mem_of_getElem? (i := 66) rfl))
theorem m_Evaluator_77 : Cond.methodLink "VectorSolver$Evaluator" 77 Y_Evaluator_isAllOther.1 ∈ lw_gd := (lw_i5 (List.mem_of_getElem? (i := 70) rfl))
theorem m_Evaluator_80 : Cond.methodLink "VectorSolver$Evaluator" 80 Y_Evaluator_folded.1 ∈ lw_gd := (lw_i5 (List.mem_of_getElem? (i := 74) rfl))
theorem m_Evaluator_84 : Cond.methodLink "VectorSolver$Evaluator" 84 Y_Evaluator_concat.1 ∈ lw_gd := (lw_i5 (List.mem_of_getElem? (i := 78) rfl))
theorem m_Evaluator_93 : Cond.methodLink "VectorSolver$Evaluator" 93 Y_Words_signed.1 ∈ lw_gd := (lw_i5 (List.mem_of_getElem? (i := 82) rfl))
theorem m_Evaluator_99 : Cond.methodLink "VectorSolver$Evaluator" 99 Y_Sorts_cell.1 ∈ lw_gd := (lw_i5 (List.mem_of_getElem? (i := 85) rfl))
theorem m_Evaluator_105 : Cond.methodLink "VectorSolver$Evaluator" 105 Y_Evaluator_store.1 ∈ lw_gd := (lw_i5 (List.mem_of_getElem? (i := 92) rfl))
theorem m_Evaluator_108 : Cond.methodLink "VectorSolver$Evaluator" 108 Y_Words_compare.1 ∈ lw_gd := (lw_i5 (List.mem_of_getElem? (i := 99) rfl))
theorem m_Evaluator_112 : Cond.methodLink "VectorSolver$Evaluator" 112 Y_Words_two.1 ∈ lw_gd := (lw_i5 (List.mem_of_getElem? (i := 109) rfl))
theorem m_Evaluator_116 : Cond.methodLink "VectorSolver$Evaluator" 116 Y_Sorts_cellShift.1 ∈ lw_gd := (lw_i5 (List.mem_of_getElem? (i := 96) rfl))
theorem m_Evaluator_120 : Cond.methodLink "VectorSolver$Evaluator" 120 Y_Sorts_width.1 ∈ lw_gd := (lw_i5 (List.mem_of_getElem? (i := 97) rfl))
theorem m_Evaluator_124 : Cond.methodLink "VectorSolver$Evaluator" 124 Y_Words_mask.1 ∈ lw_gd := (lw_i5 (List.mem_of_getElem? (i := 98) rfl))
theorem m_Learner_40 : Cond.methodLink "VectorSolver$Learner" 40 Y_Learner_ask.1 ∈ lw_gd := (lw_i5 (List.mem_of_getElem? (i := 141) rfl))
theorem m_Learner_55 : Cond.methodLink "VectorSolver$Learner" 55 Y_Learner_explainTerm.1 ∈ lw_gd := (lw_i5 (List.mem_of_getElem? (i := 145) rfl))
theorem m_Learner_70 : Cond.methodLink "VectorSolver$Learner" 70 Y_Learner_explainBitwise.1 ∈ lw_gd := (lw_i5 (List.mem_of_getElem? (i := 150) rfl))
theorem m_Learner_74 : Cond.methodLink "VectorSolver$Learner" 74 Y_Learner_askAll.1 ∈ lw_gd := (lw_i5 (List.mem_of_getElem? (i := 154) rfl))
theorem m_Learner_77 : Cond.methodLink "VectorSolver$Learner" 77 Y_Learner_explainImplication.1 ∈ lw_gd := (lw_i5 (List.mem_of_getElem? (i := 163) rfl))
theorem m_Learner_81 : Cond.methodLink "VectorSolver$Learner" 81 Y_Learner_explainIte.1 ∈ lw_gd := (lw_i5 (List.mem_of_getElem? (i := 167) rfl))
theorem m_Learner_84 : Cond.methodLink "VectorSolver$Learner" 84 Y_Learner_explainEqual.1 ∈ lw_gd := (lw_i5 (List.mem_of_getElem? (i := 171) rfl))
theorem m_Learner_88 : Cond.methodLink "VectorSolver$Learner" 88 Y_Learner_explainDistinct.1 ∈ lw_gd := (lw_i5 (List.mem_of_getElem? (i := 182) rfl))
theorem m_Learner_91 : Cond.methodLink "VectorSolver$Learner" 91 Y_Words_upToHighest.1 ∈ lw_gd := (lw_i5 (List.mem_of_getElem? (i := 179) rfl))
theorem m_Learner_97 : Cond.methodLink "VectorSolver$Learner" 97 Y_Learner_explainProduct.1 ∈ lw_gd := (lw_i5 (List.mem_of_getElem? (i := 186) rfl))
theorem m_Learner_103 : Cond.methodLink "VectorSolver$Learner" 103 Y_Learner_explainShift.1 ∈ lw_gd := (lw_i5 (List.mem_of_getElem? (i := 190) rfl))
theorem m_Learner_106 : Cond.methodLink "VectorSolver$Learner" 106 Y_Learner_explainSignedShift.1 ∈ lw_gd := (lw_i5 (List.mem_of_getElem? (i := 195) rfl))
theorem m_Learner_109 : Cond.methodLink "VectorSolver$Learner" 109 Y_Learner_explainConcat.1 ∈ lw_gd := (lw_i5 (List.mem_of_getElem? (i := 204) rfl))
theorem m_Learner_112 : Cond.methodLink "VectorSolver$Learner" 112 Y_Learner_askFilled.1 ∈ lw_gd := (lw_i5 (List.mem_of_getElem? (i := 200) rfl))
theorem m_Learner_116 : Cond.methodLink "VectorSolver$Learner" 116 Y_Learner_explainSelect.1 ∈ lw_gd := (lw_i5 (List.mem_of_getElem? (i := 208) rfl))
theorem m_Learner_119 : Cond.methodLink "VectorSolver$Learner" 119 Y_Learner_explainStore.1 ∈ lw_gd := (lw_i5 (List.mem_of_getElem? (i := 213) rfl))
theorem m_Learner_122 : Cond.methodLink "VectorSolver$Learner" 122 Y_Learner_explainComparison.1 ∈ lw_gd := (lw_i5 (List.mem_of_getElem? (i := 217) rfl))
theorem m_Learner_125 : Cond.methodLink "VectorSolver$Learner" 125 Y_Learner_isBetter.1 ∈ lw_gd := (lw_i5 (List.mem_of_getElem? (i := 158) rfl))
theorem m_Learner_129 : Cond.methodLink "VectorSolver$Learner" 129 Y_Words_trailingZeros.1 ∈ lw_gd := (lw_i5 (List.mem_of_getElem? (i := 162) rfl))
theorem m_Learner_133 : Cond.methodLink "VectorSolver$Learner" 133 Y_Learner_explainDifference.1 ∈ lw_gd := (lw_i5 (List.mem_of_getElem? (i := 175) rfl))
theorem m_Learner_143 : Cond.methodLink "VectorSolver$Learner" 143 Y_Words_less.1 ∈ lw_gd := (lw_i5 (List.mem_of_getElem? (i := 194) rfl))
theorem m_Learner_147 : Cond.methodLink "VectorSolver$Learner" 147 Y_Words_signShift.1 ∈ lw_gd := (lw_i5 (List.mem_of_getElem? (i := 199) rfl))
theorem m_Learner_151 : Cond.methodLink "VectorSolver$Learner" 151 Y_Sorts_cellShift.1 ∈ lw_gd := (lw_i5 (List.mem_of_getElem? (i := 212) rfl))
theorem m_Reader_71 : Cond.methodLink "VectorSolver$Reader" 71 Y_Text_isOver.1 ∈ lw_gd := (lw_i3 (List.mem_of_getElem? (i := 141) rfl))
theorem m_Reader_75 : Cond.methodLink "VectorSolver$Reader" 75 Y_Reader_expect.1 ∈ lw_gd := (lw_i3 (List.mem_of_getElem? (i := 145) rfl))
theorem m_Reader_79 : Cond.methodLink "VectorSolver$Reader" 79 Y_Text_next.1 ∈ lw_gd := (lw_i3 (List.mem_of_getElem? (i := 149) rfl))
theorem m_Reader_85 : Cond.methodLink "VectorSolver$Reader" 85 Y_Reader_declare.1 ∈ lw_gd := (lw_i3 (List.mem_of_getElem? (i := 224) rfl))
theorem m_Reader_88 : Cond.methodLink "VectorSolver$Reader" 88 Y_Reader_define.1 ∈ lw_gd := (lw_i4 (List.mem_of_getElem? (i := 61) rfl))
theorem m_Reader_91 : Cond.methodLink "VectorSolver$Reader" 91 Y_Reader_affirm.1 ∈ lw_gd := (lw_i4 (List.mem_of_getElem? (i := 159) rfl))
theorem m_Reader_94 : Cond.methodLink "VectorSolver$Reader" 94 Y_Text_failHere.1 ∈ lw_gd := (lw_i3 (List.mem_of_getElem? (i := 154) rfl))
theorem m_Reader_100 : Cond.methodLink "VectorSolver$Reader" 100 Y_Reader_expectNewName.1 ∈ lw_gd := (lw_i3 (List.mem_of_getElem? (i := 228) rfl))
theorem m_Reader_109 : Cond.methodLink "VectorSolver$Reader" 109 Y_Reader_sort.1 ∈ lw_gd := (lw_i4 (List.mem_of_getElem? (i := 8) rfl))
theorem m_Reader_112 : Cond.methodLink "VectorSolver$Reader" 112 Y_Sorts_size.1 ∈ lw_gd := (lw_i4 (List.mem_of_getElem? (i := 35) rfl))
theorem m_Reader_118 : Cond.methodLink "VectorSolver$Reader" 118 Y_Reader_make.1 ∈ lw_gd := (lw_i4 (List.mem_of_getElem? (i := 38) rfl))
theorem m_Reader_122 : Cond.methodLink "VectorSolver$Reader" 122 Y_Book_addThing.1 ∈ lw_gd := (lw_i4 (List.mem_of_getElem? (i := 52) rfl))
theorem m_Reader_125 : Cond.methodLink "VectorSolver$Reader" 125 Y_Book_addName.1 ∈ lw_gd := (lw_i4 (List.mem_of_getElem? (i := 57) rfl))
theorem m_Reader_129 : Cond.methodLink "VectorSolver$Reader" 129 Y_Reader_term.1 ∈ lw_gd := (lw_i4 (List.mem_of_getElem? (i := 65) rfl))
theorem m_Reader_136 : Cond.methodLink "VectorSolver$Reader" 136 Y_Text_fail.1 ∈ lw_gd := (lw_i4 (List.mem_of_getElem? (i := 0) rfl))
theorem m_Reader_146 : Cond.methodLink "VectorSolver$Reader" 146 Y_Book_findName.1 ∈ lw_gd := (lw_i3 (List.mem_of_getElem? (i := 232) rfl))
theorem m_Reader_150 : Cond.methodLink "VectorSolver$Reader" 150 Y_Book_hasRoomForName.1 ∈ lw_gd := (lw_i4 (List.mem_of_getElem? (i := 4) rfl))
theorem m_Reader_154 : Cond.methodLink "VectorSolver$Reader" 154 Y_Reader_width.1 ∈ lw_gd := (lw_i4 (List.mem_of_getElem? (i := 12) rfl))
theorem m_Reader_157 : Cond.methodLink "VectorSolver$Reader" 157 Y_Reader_expectReserved.1 ∈ lw_gd := (lw_i4 (List.mem_of_getElem? (i := 16) rfl))
theorem m_Reader_160 : Cond.methodLink "VectorSolver$Reader" 160 Y_Sorts_array.1 ∈ lw_gd := (lw_i4 (List.mem_of_getElem? (i := 32) rfl))
theorem m_Reader_163 : Cond.methodLink "VectorSolver$Reader" 163 Y_Reader_numeral.1 ∈ lw_gd := (lw_i4 (List.mem_of_getElem? (i := 20) rfl))
theorem m_Reader_166 : Cond.methodLink "VectorSolver$Reader" 166 Y_Text_numeral.1 ∈ lw_gd := (lw_i4 (List.mem_of_getElem? (i := 24) rfl))
theorem m_Reader_173 : Cond.methodLink "VectorSolver$Reader" 173 Y_Reader_symbolTerm.1 ∈ lw_gd := (lw_i4 (List.mem_of_getElem? (i := 69) rfl))
theorem m_Reader_176 : Cond.methodLink "VectorSolver$Reader" 176 Y_Text_constantWidth.1 ∈ lw_gd := (lw_i4 (List.mem_of_getElem? (i := 77) rfl))
theorem m_Reader_179 : Cond.methodLink "VectorSolver$Reader" 179 Y_Text_constant.1 ∈ lw_gd := (lw_i4 (List.mem_of_getElem? (i := 81) rfl))
theorem m_Reader_182 : Cond.methodLink "VectorSolver$Reader" 182 Y_Reader_bracketTerm.1 ∈ lw_gd := (lw_i4 (List.mem_of_getElem? (i := 85) rfl))
theorem m_Reader_185 : Cond.methodLink "VectorSolver$Reader" 185 Y_Text_isSame.1 ∈ lw_gd := (lw_i4 (List.mem_of_getElem? (i := 73) rfl))
theorem m_Reader_192 : Cond.methodLink "VectorSolver$Reader" 192 Y_Reader_let.1 ∈ lw_gd := (lw_i4 (List.mem_of_getElem? (i := 89) rfl))
theorem m_Reader_195 : Cond.methodLink "VectorSolver$Reader" 195 Y_Reader_indexedOperator.1 ∈ lw_gd := (lw_i4 (List.mem_of_getElem? (i := 101) rfl))
theorem m_Reader_198 : Cond.methodLink "VectorSolver$Reader" 198 Y_Reader_plainOperator.1 ∈ lw_gd := (lw_i4 (List.mem_of_getElem? (i := 105) rfl))
theorem m_Reader_207 : Cond.methodLink "VectorSolver$Reader" 207 Y_Reader_readArguments.1 ∈ lw_gd := (lw_i4 (List.mem_of_getElem? (i := 109) rfl))
theorem m_Reader_210 : Cond.methodLink "VectorSolver$Reader" 210 Y_Reader_fitsMany.1 ∈ lw_gd := (lw_i4 (List.mem_of_getElem? (i := 113) rfl))
theorem m_Reader_213 : Cond.methodLink "VectorSolver$Reader" 213 Y_Reader_sortOfResult.1 ∈ lw_gd := (lw_i4 (List.mem_of_getElem? (i := 116) rfl))
theorem m_Reader_216 : Cond.methodLink "VectorSolver$Reader" 216 Y_Reader_weigh.1 ∈ lw_gd := (lw_i4 (List.mem_of_getElem? (i := 144) rfl))
theorem m_Reader_220 : Cond.methodLink "VectorSolver$Reader" 220 Y_Reader_giveArguments.1 ∈ lw_gd := (lw_i4 (List.mem_of_getElem? (i := 147) rfl))
theorem m_Reader_229 : Cond.methodLink "VectorSolver$Reader" 229 Y_Terms_addArgument.1 ∈ lw_gd := (lw_i4 (List.mem_of_getElem? (i := 151) rfl))
theorem m_Reader_239 : Cond.methodLink "VectorSolver$Reader" 239 Y_Terms_add.1 ∈ lw_gd := (lw_i4 (List.mem_of_getElem? (i := 43) rfl))
theorem m_Reader_243 : Cond.methodLink "VectorSolver$Reader" 243 Y_Sorts_isVector.1 ∈ lw_gd := (lw_i4 (List.mem_of_getElem? (i := 120) rfl))
theorem m_Reader_246 : Cond.methodLink "VectorSolver$Reader" 246 Y_Reader_isOneSort.1 ∈ lw_gd := (lw_i4 (List.mem_of_getElem? (i := 123) rfl))
theorem m_Reader_249 : Cond.methodLink "VectorSolver$Reader" 249 Y_Reader_sortOfConcat.1 ∈ lw_gd := (lw_i4 (List.mem_of_getElem? (i := 127) rfl))
theorem m_Reader_252 : Cond.methodLink "VectorSolver$Reader" 252 Y_Reader_sortOfArrayUse.1 ∈ lw_gd := (lw_i4 (List.mem_of_getElem? (i := 131) rfl))
theorem m_Reader_255 : Cond.methodLink "VectorSolver$Reader" 255 Y_Sorts_isArray.1 ∈ lw_gd := (lw_i4 (List.mem_of_getElem? (i := 135) rfl))
theorem m_Reader_258 : Cond.methodLink "VectorSolver$Reader" 258 Y_Sorts_indexWidth.1 ∈ lw_gd := (lw_i4 (List.mem_of_getElem? (i := 138) rfl))
theorem m_Reader_261 : Cond.methodLink "VectorSolver$Reader" 261 Y_Sorts_width.1 ∈ lw_gd := (lw_i4 (List.mem_of_getElem? (i := 141) rfl))
theorem m_Reader_262 : Cond.methodLink "VectorSolver$Reader" 262 Y_Reader_bind.1 ∈ lw_gd := (lw_i4 (List.mem_of_getElem? (i := 93) rfl))
theorem m_Reader_265 : Cond.methodLink "VectorSolver$Reader" 265 Y_Reader_isBoundSince.1 ∈ lw_gd := (lw_i4 (List.mem_of_getElem? (i := 97) rfl))
theorem m_Search_87 : Cond.methodLink "VectorSolver$Search" 87 Y_Search_findDependencies.1 ∈ lw_gd := (lw_i5 (List.mem_of_getElem? (i := 11) rfl))
theorem m_Search_90 : Cond.methodLink "VectorSolver$Search" 90 Y_Search_orderGoals.1 ∈ lw_gd := (lw_i5 (List.mem_of_getElem? (i := 19) rfl))
theorem m_Search_94 : Cond.methodLink "VectorSolver$Search" 94 Y_Search_listSteps.1 ∈ lw_gd := (lw_i5 (List.mem_of_getElem? (i := 36) rfl))
theorem m_Search_97 : Cond.methodLink "VectorSolver$Search" 97 Y_Search_learnBound.1 ∈ lw_gd := (lw_i5 (List.mem_of_getElem? (i := 125) rfl))
theorem m_Search_100 : Cond.methodLink "VectorSolver$Search" 100 Y_Search_falseGoal.1 ∈ lw_gd := (lw_i5 (List.mem_of_getElem? (i := 133) rfl))
theorem m_Search_104 : Cond.methodLink "VectorSolver$Search" 104 Y_Learner_explain.1 ∈ lw_gd := (lw_i5 (List.mem_of_getElem? (i := 137) rfl))
theorem m_Search_108 : Cond.methodLink "VectorSolver$Search" 108 Y_Checker_followsFalse.1 ∈ lw_gd := (lw_i5 (List.mem_of_getElem? (i := 221) rfl))
theorem m_Search_115 : Cond.methodLink "VectorSolver$Search" 115 Y_Search_nextAfter.1 ∈ lw_gd := (lw_i6 (List.mem_of_getElem? (i := 93) rfl))
theorem m_Search_132 : Cond.methodLink "VectorSolver$Search" 132 Y_Book_shift.1 ∈ lw_gd := (lw_i5 (List.mem_of_getElem? (i := 15) rfl))
theorem m_Search_150 : Cond.methodLink "VectorSolver$Search" 150 Y_Search_addGoal.1 ∈ lw_gd := (lw_i5 (List.mem_of_getElem? (i := 23) rfl))
theorem m_Search_154 : Cond.methodLink "VectorSolver$Search" 154 Y_Words_trailingZeros.1 ∈ lw_gd := (lw_i5 (List.mem_of_getElem? (i := 27) rfl))
theorem m_Search_159 : Cond.methodLink "VectorSolver$Search" 159 Y_Evaluator_takeThings.1 ∈ lw_gd := (lw_i5 (List.mem_of_getElem? (i := 40) rfl))
theorem m_Search_162 : Cond.methodLink "VectorSolver$Search" 162 Y_Terms_markCone.1 ∈ lw_gd := (lw_i5 (List.mem_of_getElem? (i := 45) rfl))
theorem m_Search_169 : Cond.methodLink "VectorSolver$Search" 169 Y_Evaluator_workOut.1 ∈ lw_gd := (lw_i5 (List.mem_of_getElem? (i := 53) rfl))
theorem m_Search_172 : Cond.methodLink "VectorSolver$Search" 172 Y_Checker_followsBound.1 ∈ lw_gd := (lw_i5 (List.mem_of_getElem? (i := 129) rfl))
theorem m_Search_175 : Cond.methodLink "VectorSolver$Search" 175 Y_Search_join.1 ∈ lw_gd := (lw_i6 (List.mem_of_getElem? (i := 97) rfl))
theorem m_Search_179 : Cond.methodLink "VectorSolver$Search" 179 Y_Checker_followsBoth.1 ∈ lw_gd := (lw_i6 (List.mem_of_getElem? (i := 101) rfl))
theorem m_Sorts_9 : Cond.methodLink "VectorSolver$Sorts" 9 Y_Words_mask.1 ∈ lw_gd := (lw_i5 (List.mem_of_getElem? (i := 88) rfl))
theorem m_Sorts_15 : Cond.methodLink "VectorSolver$Sorts" 15 Y_Sorts_cellShift.1 ∈ lw_gd := (lw_i5 (List.mem_of_getElem? (i := 89) rfl))
theorem m_Terms_46 : Cond.methodLink "VectorSolver$Terms" 46 Y_Sorts_size.1 ∈ lw_gd := (lw_i4 (List.mem_of_getElem? (i := 47) rfl))
theorem m_Terms_52 : Cond.methodLink "VectorSolver$Terms" 52 Y_Words_mask.1 ∈ lw_gd := (lw_i4 (List.mem_of_getElem? (i := 48) rfl))
theorem m_Terms_58 : Cond.methodLink "VectorSolver$Terms" 58 Y_Terms_keepsPlaces.1 ∈ lw_gd := (lw_i4 (List.mem_of_getElem? (i := 155) rfl))
theorem m_Terms_62 : Cond.methodLink "VectorSolver$Terms" 62 Y_Terms_markArguments.1 ∈ lw_gd := (lw_i5 (List.mem_of_getElem? (i := 49) rfl))
theorem m_Text_37 : Cond.methodLink "VectorSolver$Text" 37 Y_String_charAt.1 ∈ lw_gd := (lw_i1 (List.mem_of_getElem? (i := 53) rfl))
theorem m_Text_55 : Cond.methodLink "VectorSolver$Text" 55 Y_Text_skipBlanks.1 ∈ lw_gd := (lw_i3 (List.mem_of_getElem? (i := 35) rfl))
theorem m_Text_64 : Cond.methodLink "VectorSolver$Text" 64 Y_Text_cutPiece.1 ∈ lw_gd := (lw_i3 (List.mem_of_getElem? (i := 39) rfl))
theorem m_Text_67 : Cond.methodLink "VectorSolver$Text" 67 Y_Text_keepPiece.1 ∈ lw_gd := (lw_i3 (List.mem_of_getElem? (i := 128) rfl))
theorem m_Text_76 : Cond.methodLink "VectorSolver$Text" 76 Y_Text_isWordSign.1 ∈ lw_gd := (lw_i3 (List.mem_of_getElem? (i := 43) rfl))
theorem m_Text_80 : Cond.methodLink "VectorSolver$Text" 80 Y_Text_kindOfWord.1 ∈ lw_gd := (lw_i3 (List.mem_of_getElem? (i := 109) rfl))
theorem m_Text_83 : Cond.methodLink "VectorSolver$Text" 83 Y_Text_isDigit.1 ∈ lw_gd := (lw_i3 (List.mem_of_getElem? (i := 46) rfl))
theorem m_Text_88 : Cond.methodLink "VectorSolver$Text" 88 Y_String_indexOf0.1 ∈ lw_gd := (lw_i3 (List.mem_of_getElem? (i := 50) rfl))
theorem m_Text_92 : Cond.methodLink "VectorSolver$Text" 92 Y_Text_hasDigits.1 ∈ lw_gd := (lw_i3 (List.mem_of_getElem? (i := 113) rfl))
theorem m_Text_96 : Cond.methodLink "VectorSolver$Text" 96 Y_Text_findReserved.1 ∈ lw_gd := (lw_i3 (List.mem_of_getElem? (i := 120) rfl))
theorem m_Text_99 : Cond.methodLink "VectorSolver$Text" 99 Y_Text_digit.1 ∈ lw_gd := (lw_i3 (List.mem_of_getElem? (i := 117) rfl))
theorem m_Text_102 : Cond.methodLink "VectorSolver$Text" 102 Y_Text_isReserved.1 ∈ lw_gd := (lw_i3 (List.mem_of_getElem? (i := 124) rfl))
theorem m_Words_15 : Cond.methodLink "VectorSolver$Words" 15 Y_Integer_bitCount.1 ∈ lw_gd := (lw_i5 (List.mem_of_getElem? (i := 30) rfl))
theorem m_Words_21 : Cond.methodLink "VectorSolver$Words" 21 Y_Words_quotient.1 ∈ lw_gd := (lw_i5 (List.mem_of_getElem? (i := 112) rfl))
theorem m_Words_27 : Cond.methodLink "VectorSolver$Words" 27 Y_Words_signed.1 ∈ lw_gd := (lw_i5 (List.mem_of_getElem? (i := 115) rfl))
theorem m_Words_31 : Cond.methodLink "VectorSolver$Words" 31 Y_Words_signedQuotient.1 ∈ lw_gd := (lw_i5 (List.mem_of_getElem? (i := 116) rfl))
theorem m_Words_34 : Cond.methodLink "VectorSolver$Words" 34 Y_Words_signedRest.1 ∈ lw_gd := (lw_i5 (List.mem_of_getElem? (i := 119) rfl))
theorem m_Words_37 : Cond.methodLink "VectorSolver$Words" 37 Y_Words_less.1 ∈ lw_gd := (lw_i5 (List.mem_of_getElem? (i := 105) rfl))
theorem m_Words_41 : Cond.methodLink "VectorSolver$Words" 41 Y_Words_signShift.1 ∈ lw_gd := (lw_i5 (List.mem_of_getElem? (i := 122) rfl))
theorem m_Words_45 : Cond.methodLink "VectorSolver$Words" 45 Y_Words_turned.1 ∈ lw_gd := (lw_i5 (List.mem_of_getElem? (i := 102) rfl))
theorem m_VectorSolverModel_132 : Cond.methodLink "VectorSolverModel" 132 Y_VectorSolverModel_lay0.1 ∈ lw_gd := (lw_i7 (List.mem_of_getElem? (i := 140) rfl))
theorem m_VectorSolverModel_136 : Cond.methodLink "VectorSolverModel" 136 Y_VectorSolverModel_isDigit.1 ∈ lw_gd := (lw_i7 (List.mem_of_getElem? (i := 159) rfl))
theorem m_VectorSolverModel_142 : Cond.methodLink "VectorSolverModel" 142 Y_String_length.1 ∈ lw_gd := (lw_i7 (List.mem_of_getElem? (i := 163) rfl))
theorem m_VectorSolverModel_148 : Cond.methodLink "VectorSolverModel" 148 Y_String_charAt.1 ∈ lw_gd := (lw_i7 (List.mem_of_getElem? (i := 164) rfl))
theorem m_VectorSolverModel_152 : Cond.methodLink "VectorSolverModel" 152 Y_VectorSolverModel_digit.1 ∈ lw_gd := (lw_i7 (List.mem_of_getElem? (i := 169) rfl))
theorem m_VectorSolverModel_156 : Cond.methodLink "VectorSolverModel" 156 Y_VectorSolverModel_isWord.1 ∈ lw_gd := (lw_i7 (List.mem_of_getElem? (i := 156) rfl))
theorem m_VectorSolverModel_159 : Cond.methodLink "VectorSolverModel" 159 Y_VectorSolverModel_kindOf.1 ∈ lw_gd := (lw_i7 (List.mem_of_getElem? (i := 165) rfl))
theorem m_VectorSolverModel_163 : Cond.methodLink "VectorSolverModel" 163 Y_VectorSolverModel_reservedOf.1 ∈ lw_gd := (lw_i7 (List.mem_of_getElem? (i := 172) rfl))
theorem m_VectorSolverModel_172 : Cond.methodLink "VectorSolverModel" 172 Y_VectorSolverModel_want.1 ∈ lw_gd := (lw_i7 (List.mem_of_getElem? (i := 180) rfl))
theorem m_VectorSolverModel_176 : Cond.methodLink "VectorSolverModel" 176 Y_VectorSolverModel_next.1 ∈ lw_gd := (lw_i7 (List.mem_of_getElem? (i := 176) rfl))
theorem m_VectorSolverModel_179 : Cond.methodLink "VectorSolverModel" 179 Y_VectorSolverModel_must.1 ∈ lw_gd := (lw_i7 (List.mem_of_getElem? (i := 188) rfl))
theorem m_VectorSolverModel_186 : Cond.methodLink "VectorSolverModel" 186 Y_VectorSolverModel_need.1 ∈ lw_gd := (lw_i7 (List.mem_of_getElem? (i := 196) rfl))
theorem m_VectorSolverModel_197 : Cond.methodLink "VectorSolverModel" 197 Y_VectorSolverModel_findName.1 ∈ lw_gd := (lw_i7 (List.mem_of_getElem? (i := 200) rfl))
theorem m_VectorSolverModel_200 : Cond.methodLink "VectorSolverModel" 200 Y_VectorSolverModel_used.1 ∈ lw_gd := (lw_i7 (List.mem_of_getElem? (i := 204) rfl))
theorem m_VectorSolverModel_209 : Cond.methodLink "VectorSolverModel" 209 Y_VectorSolverModel_needWord.1 ∈ lw_gd := (lw_i7 (List.mem_of_getElem? (i := 212) rfl))
theorem m_VectorSolverModel_214 : Cond.methodLink "VectorSolverModel" 214 Y_VectorSolverModel_needNumber.1 ∈ lw_gd := (lw_i7 (List.mem_of_getElem? (i := 217) rfl))
theorem m_VectorSolverModel_230 : Cond.methodLink "VectorSolverModel" 230 Y_VectorSolverModel_freshName.1 ∈ lw_gd := (lw_i7 (List.mem_of_getElem? (i := 192) rfl))
theorem m_VectorSolverModel_233 : Cond.methodLink "VectorSolverModel" 233 Y_VectorSolverModel_readSort.1 ∈ lw_gd := (lw_i7 (List.mem_of_getElem? (i := 208) rfl))
theorem m_VectorSolverModel_236 : Cond.methodLink "VectorSolverModel" 236 Y_VectorSolverModel_bitsOf.1 ∈ lw_gd := (lw_i7 (List.mem_of_getElem? (i := 226) rfl))
theorem m_VectorSolverModel_239 : Cond.methodLink "VectorSolverModel" 239 Y_VectorSolverModel_make.1 ∈ lw_gd := (lw_i7 (List.mem_of_getElem? (i := 229) rfl))
theorem m_VectorSolverModel_243 : Cond.methodLink "VectorSolverModel" 243 Y_VectorSolverModel_addName.1 ∈ lw_gd := (lw_i7 (List.mem_of_getElem? (i := 234) rfl))
theorem m_VectorSolverModel_252 : Cond.methodLink "VectorSolverModel" 252 Y_VectorSolverModel_told.1 ∈ lw_gd := (lw_i7 (List.mem_of_getElem? (i := 238) rfl))
theorem m_VectorSolverModel_261 : Cond.methodLink "VectorSolverModel" 261 Y_VectorSolverModel_term.1 ∈ lw_gd := (lw_i8 (List.mem_of_getElem? (i := 2) rfl))
theorem m_VectorSolverModel_273 : Cond.methodLink "VectorSolverModel" 273 Y_VectorSolverModel_symbol.1 ∈ lw_gd := (lw_i8 (List.mem_of_getElem? (i := 6) rfl))
theorem m_VectorSolverModel_276 : Cond.methodLink "VectorSolverModel" 276 Y_VectorSolverModel_constant.1 ∈ lw_gd := (lw_i8 (List.mem_of_getElem? (i := 14) rfl))
theorem m_VectorSolverModel_279 : Cond.methodLink "VectorSolverModel" 279 Y_VectorSolverModel_opening.1 ∈ lw_gd := (lw_i8 (List.mem_of_getElem? (i := 18) rfl))
theorem m_VectorSolverModel_283 : Cond.methodLink "VectorSolverModel" 283 Y_VectorSolverModel_apply.1 ∈ lw_gd := (lw_i8 (List.mem_of_getElem? (i := 26) rfl))
theorem m_VectorSolverModel_286 : Cond.methodLink "VectorSolverModel" 286 Y_VectorSolverModel_goOn.1 ∈ lw_gd := (lw_i8 (List.mem_of_getElem? (i := 66) rfl))
theorem m_VectorSolverModel_289 : Cond.methodLink "VectorSolverModel" 289 Y_VectorSolverModel_areSame.1 ∈ lw_gd := (lw_i8 (List.mem_of_getElem? (i := 10) rfl))
theorem m_VectorSolverModel_293 : Cond.methodLink "VectorSolverModel" 293 Y_VectorSolverModel_bind.1 ∈ lw_gd := (lw_i8 (List.mem_of_getElem? (i := 22) rfl))
theorem m_VectorSolverModel_296 : Cond.methodLink "VectorSolverModel" 296 Y_VectorSolverModel_indexOf.1 ∈ lw_gd := (lw_i8 (List.mem_of_getElem? (i := 46) rfl))
theorem m_VectorSolverModel_299 : Cond.methodLink "VectorSolverModel" 299 Y_VectorSolverModel_widthOf.1 ∈ lw_gd := (lw_i8 (List.mem_of_getElem? (i := 50) rfl))
theorem m_VectorSolverModel_302 : Cond.methodLink "VectorSolverModel" 302 Y_VectorSolverModel_areAlike.1 ∈ lw_gd := (lw_i8 (List.mem_of_getElem? (i := 42) rfl))
theorem m_VectorSolverModel_311 : Cond.methodLink "VectorSolverModel" 311 Y_VectorSolverModel_allAlike.1 ∈ lw_gd := (lw_i8 (List.mem_of_getElem? (i := 38) rfl))
theorem m_VectorSolverModel_314 : Cond.methodLink "VectorSolverModel" 314 Y_VectorSolverModel_gets.1 ∈ lw_gd := (lw_i8 (List.mem_of_getElem? (i := 54) rfl))
theorem m_VectorSolverModel_317 : Cond.methodLink "VectorSolverModel" 317 Y_VectorSolverModel_isVector.1 ∈ lw_gd := (lw_i8 (List.mem_of_getElem? (i := 58) rfl))
theorem m_VectorSolverModel_320 : Cond.methodLink "VectorSolverModel" 320 Y_VectorSolverModel_fitsMany.1 ∈ lw_gd := (lw_i8 (List.mem_of_getElem? (i := 30) rfl))
theorem m_VectorSolverModel_323 : Cond.methodLink "VectorSolverModel" 323 Y_VectorSolverModel_fits.1 ∈ lw_gd := (lw_i8 (List.mem_of_getElem? (i := 34) rfl))
theorem m_VectorSolverModel_326 : Cond.methodLink "VectorSolverModel" 326 Y_VectorSolverModel_heavy.1 ∈ lw_gd := (lw_i8 (List.mem_of_getElem? (i := 62) rfl))
theorem m_VectorSolverModel_329 : Cond.methodLink "VectorSolverModel" 329 Y_VectorSolverModel_split.1 ∈ lw_gd := (lw_i7 (List.mem_of_getElem? (i := 152) rfl))
theorem m_VectorSolverModel_332 : Cond.methodLink "VectorSolverModel" 332 Y_VectorSolverModel_command.1 ∈ lw_gd := (lw_i7 (List.mem_of_getElem? (i := 184) rfl))
theorem m_VectorSolverModel_339 : Cond.methodLink "VectorSolverModel" 339 Y_VectorSolverModel_isBelow.1 ∈ lw_gd := (lw_i8 (List.mem_of_getElem? (i := 140) rfl))
theorem m_VectorSolverModel_343 : Cond.methodLink "VectorSolverModel" 343 Y_VectorSolverModel_divide.1 ∈ lw_gd := (lw_i8 (List.mem_of_getElem? (i := 137) rfl))
theorem m_VectorSolverModel_347 : Cond.methodLink "VectorSolverModel" 347 Y_VectorSolverModel_signed.1 ∈ lw_gd := (lw_i8 (List.mem_of_getElem? (i := 144) rfl))
theorem m_VectorSolverModel_351 : Cond.methodLink "VectorSolverModel" 351 Y_VectorSolverModel_divided.1 ∈ lw_gd := (lw_i8 (List.mem_of_getElem? (i := 134) rfl))
theorem m_VectorSolverModel_355 : Cond.methodLink "VectorSolverModel" 355 Y_VectorSolverModel_shifted.1 ∈ lw_gd := (lw_i8 (List.mem_of_getElem? (i := 147) rfl))
theorem m_VectorSolverModel_358 : Cond.methodLink "VectorSolverModel" 358 Y_VectorSolverModel_of.1 ∈ lw_gd := (lw_i8 (List.mem_of_getElem? (i := 87) rfl))
theorem m_VectorSolverModel_361 : Cond.methodLink "VectorSolverModel" 361 Y_VectorSolverModel_cells.1 ∈ lw_gd := (lw_i8 (List.mem_of_getElem? (i := 95) rfl))
theorem m_VectorSolverModel_364 : Cond.methodLink "VectorSolverModel" 364 Y_VectorSolverModel_valueOf.1 ∈ lw_gd := (lw_i8 (List.mem_of_getElem? (i := 111) rfl))
theorem m_VectorSolverModel_368 : Cond.methodLink "VectorSolverModel" 368 Y_VectorSolverModel_alike.1 ∈ lw_gd := (lw_i8 (List.mem_of_getElem? (i := 123) rfl))
theorem m_VectorSolverModel_372 : Cond.methodLink "VectorSolverModel" 372 Y_VectorSolverModel_both.1 ∈ lw_gd := (lw_i8 (List.mem_of_getElem? (i := 131) rfl))
theorem m_VectorSolverModel_375 : Cond.methodLink "VectorSolverModel" 375 Y_VectorSolverModel_mask.1 ∈ lw_gd := (lw_i8 (List.mem_of_getElem? (i := 99) rfl))
theorem m_VectorSolverModel_379 : Cond.methodLink "VectorSolverModel" 379 Y_VectorSolverModel_compares.1 ∈ lw_gd := (lw_i8 (List.mem_of_getElem? (i := 150) rfl))
theorem m_VectorSolverModel_383 : Cond.methodLink "VectorSolverModel" 383 Y_VectorSolverModel_areEqual.1 ∈ lw_gd := (lw_i8 (List.mem_of_getElem? (i := 127) rfl))
theorem m_VectorSolverModel_386 : Cond.methodLink "VectorSolverModel" 386 Y_VectorSolverModel_one.1 ∈ lw_gd := (lw_i8 (List.mem_of_getElem? (i := 107) rfl))
theorem m_VectorSolverModel_388 : Cond.methodLink "VectorSolverModel" 388 Y_VectorSolverModel_copy.1 ∈ lw_gd := (lw_i8 (List.mem_of_getElem? (i := 115) rfl))
theorem m_VectorSolverModel_392 : Cond.methodLink "VectorSolverModel" 392 Y_VectorSolverModel_result.1 ∈ lw_gd := (lw_i8 (List.mem_of_getElem? (i := 119) rfl))
theorem m_VectorSolverModel_401 : Cond.methodLink "VectorSolverModel" 401 Y_VectorSolverModel_lay1.1 ∈ lw_gd := (lw_i8 (List.mem_of_getElem? (i := 91) rfl))
theorem m_VectorSolverModel_404 : Cond.methodLink "VectorSolverModel" 404 Y_VectorSolverModel_workOut.1 ∈ lw_gd := (lw_i8 (List.mem_of_getElem? (i := 103) rfl))
theorem m_VectorSolverModel_413 : Cond.methodLink "VectorSolverModel" 413 Y_VectorSolverModel_pay.1 ∈ lw_gd := (lw_i8 (List.mem_of_getElem? (i := 78) rfl))
theorem m_VectorSolverModel_416 : Cond.methodLink "VectorSolverModel" 416 Y_VectorSolverModel_search.1 ∈ lw_gd := (lw_i8 (List.mem_of_getElem? (i := 83) rfl))
theorem m_String_335 : Cond.methodLink "java/lang/String" 335 Y_String_coder.1 ∈ lw_gd := (lw_i1 (List.mem_of_getElem? (i := 47) rfl))
theorem m_String_492 : Cond.methodLink "java/lang/String" 492 Y_String_isLatin1.1 ∈ lw_gd := (lw_i1 (List.mem_of_getElem? (i := 57) rfl))
theorem m_String_495 : Cond.methodLink "java/lang/String" 495 Y_StringLatin1_charAt.1 ∈ lw_gd := (lw_i1 (List.mem_of_getElem? (i := 61) rfl))
theorem m_String_505 : Cond.methodLink "java/lang/String" 505 Y_String_length.1 ∈ lw_gd := (lw_i3 (List.mem_of_getElem? (i := 58) rfl))
theorem m_String_633 : Cond.methodLink "java/lang/String" 633 Y_String_indexOf1.1 ∈ lw_gd := (lw_i3 (List.mem_of_getElem? (i := 54) rfl))
theorem m_String_637 : Cond.methodLink "java/lang/String" 637 Y_StringLatin1_indexOf.1 ∈ lw_gd := (lw_i3 (List.mem_of_getElem? (i := 59) rfl))
theorem m_StringLatin1_9 : Cond.methodLink "java/lang/StringLatin1" 9 Y_String_checkIndex.1 ∈ lw_gd := (lw_i1 (List.mem_of_getElem? (i := 64) rfl))
theorem m_StringLatin1_38 : Cond.methodLink "java/lang/StringLatin1" 38 Y_Math_min.1 ∈ lw_gd := (lw_i3 (List.mem_of_getElem? (i := 68) rfl))
theorem m_StringLatin1_88 : Cond.methodLink "java/lang/StringLatin1" 88 Y_StringLatin1_canEncode.1 ∈ lw_gd := (lw_i3 (List.mem_of_getElem? (i := 62) rfl))
theorem m_StringLatin1_92 : Cond.methodLink "java/lang/StringLatin1" 92 Y_Math_max.1 ∈ lw_gd := (lw_i3 (List.mem_of_getElem? (i := 65) rfl))
theorem m_StringLatin1_95 : Cond.methodLink "java/lang/StringLatin1" 95 Y_StringLatin1_indexOfChar.1 ∈ lw_gd := (lw_i3 (List.mem_of_getElem? (i := 71) rfl))
theorem k_VectorSolver_59 : Cond.constant "VectorSolver" 59 65516 ∈ lw_gd := (lw_i4 (List.mem_of_getElem? (i := 183) rfl))
theorem k_Book_18 : Cond.constant "VectorSolver$Book" 18 65536 ∈ lw_gd := (lw_i1 (List.mem_of_getElem? (i := 234) rfl))
theorem k_Checker_77 : Cond.constantLong "VectorSolver$Checker" 77 (-1) ∈ lw_gd := (lw_i5 (List.mem_of_getElem? (i := 235) rfl))
theorem k_Evaluator_67 : Cond.constantLong "VectorSolver$Evaluator" 67 (-1) ∈ lw_gd := (lw_i5 (List.mem_of_getElem? (i := 61) rfl))
theorem k_Learner_68 : Cond.constantLong "VectorSolver$Learner" 68 (-1) ∈ lw_gd := (lw_i5 (List.mem_of_getElem? (i := 149) rfl))
theorem k_Reader_70 : Cond.constant "VectorSolver$Reader" 70 65536 ∈ lw_gd := (lw_i3 (List.mem_of_getElem? (i := 140) rfl))
theorem k_Reader_171 : Cond.constantLong "VectorSolver$Reader" 171 2147483647 ∈ lw_gd := (lw_i4 (List.mem_of_getElem? (i := 31) rfl))
theorem k_Reader_235 : Cond.constant "VectorSolver$Reader" 235 100000 ∈ lw_gd := (lw_i4 (List.mem_of_getElem? (i := 42) rfl))
theorem k_Text_9 : Cond.constant "VectorSolver$Text" 9 65536 ∈ lw_gd := (lw_i1 (List.mem_of_getElem? (i := 40) rfl))
theorem k_Text_105 : Cond.constant "VectorSolver$Text" 105 1048575 ∈ lw_gd := (lw_i3 (List.mem_of_getElem? (i := 153) rfl))
theorem k_Text_115 : Cond.constantLong "VectorSolver$Text" 115 2147483647 ∈ lw_gd := (lw_i4 (List.mem_of_getElem? (i := 28) rfl))
theorem k_Text_117 : Cond.constantLong "VectorSolver$Text" 117 10 ∈ lw_gd := (lw_i4 (List.mem_of_getElem? (i := 29) rfl))
theorem k_Text_119 : Cond.constantLong "VectorSolver$Text" 119 48 ∈ lw_gd := (lw_i4 (List.mem_of_getElem? (i := 30) rfl))
theorem k_Words_9 : Cond.constantLong "VectorSolver$Words" 9 (-1) ∈ lw_gd := (lw_i4 (List.mem_of_getElem? (i := 51) rfl))
theorem k_Words_13 : Cond.constantLong "VectorSolver$Words" 13 (-9223372036854775808) ∈ lw_gd := (lw_i5 (List.mem_of_getElem? (i := 108) rfl))
theorem k_VectorSolverModel_15 : Cond.constant "VectorSolverModel" 15 65536 ∈ lw_gd := (lw_i6 (List.mem_of_getElem? (i := 193) rfl))
theorem k_VectorSolverModel_189 : Cond.constantLong "VectorSolverModel" 189 4000000000 ∈ lw_gd := (lw_i7 (List.mem_of_getElem? (i := 221) rfl))
theorem k_VectorSolverModel_191 : Cond.constantLong "VectorSolverModel" 191 10 ∈ lw_gd := (lw_i7 (List.mem_of_getElem? (i := 222) rfl))
theorem k_VectorSolverModel_193 : Cond.constantLong "VectorSolverModel" 193 48 ∈ lw_gd := (lw_i7 (List.mem_of_getElem? (i := 223) rfl))
theorem k_VectorSolverModel_195 : Cond.constantLong "VectorSolverModel" 195 2147483647 ∈ lw_gd := (lw_i7 (List.mem_of_getElem? (i := 224) rfl))
theorem k_VectorSolverModel_212 : Cond.constantLong "VectorSolverModel" 212 6 ∈ lw_gd := (lw_i7 (List.mem_of_getElem? (i := 216) rfl))
theorem k_VectorSolverModel_218 : Cond.constantLong "VectorSolverModel" 218 64 ∈ lw_gd := (lw_i7 (List.mem_of_getElem? (i := 225) rfl))
theorem k_VectorSolverModel_226 : Cond.constant "VectorSolverModel" 226 100000 ∈ lw_gd := (lw_i7 (List.mem_of_getElem? (i := 233) rfl))
theorem k_VectorSolverModel_335 : Cond.constantLong "VectorSolverModel" 335 (-1) ∈ lw_gd := (lw_i8 (List.mem_of_getElem? (i := 102) rfl))
theorem k_VectorSolverModel_337 : Cond.constantLong "VectorSolverModel" 337 (-9223372036854775808) ∈ lw_gd := (lw_i8 (List.mem_of_getElem? (i := 143) rfl))
theorem k_VectorSolverModel_399 : Cond.constantLong "VectorSolverModel" 399 200000000 ∈ lw_gd := (lw_i8 (List.mem_of_getElem? (i := 82) rfl))
theorem k_Integer_265 : Cond.constant "java/lang/Integer" 265 1431655765 ∈ lw_gd := (lw_i5 (List.mem_of_getElem? (i := 33) rfl))
theorem k_Integer_266 : Cond.constant "java/lang/Integer" 266 858993459 ∈ lw_gd := (lw_i5 (List.mem_of_getElem? (i := 34) rfl))
theorem k_Integer_267 : Cond.constant "java/lang/Integer" 267 252645135 ∈ lw_gd := (lw_i5 (List.mem_of_getElem? (i := 35) rfl))
theorem k_Long_314 : Cond.constantLong "java/lang/Long" 314 6148914691236517205 ∈ lw_gd := (lw_i6 (List.mem_of_getElem? (i := 50) rfl))
theorem k_Long_316 : Cond.constantLong "java/lang/Long" 316 3689348814741910323 ∈ lw_gd := (lw_i6 (List.mem_of_getElem? (i := 51) rfl))
theorem k_Long_318 : Cond.constantLong "java/lang/Long" 318 1085102592571150095 ∈ lw_gd := (lw_i6 (List.mem_of_getElem? (i := 52) rfl))
theorem fx_String_9 : Cond.fieldLink "java/lang/String" 9 "java/lang/String" "value" "[B" ∈ lw_gd := (lw_i8 (List.mem_of_getElem? (i := 186) rfl))
theorem fx_String_15 : Cond.fieldLink "java/lang/String" 15 "java/lang/String" "coder" "B" ∈ lw_gd := (lw_i8 (List.mem_of_getElem? (i := 187) rfl))
theorem fx_String_38 : Cond.fieldLink "java/lang/String" 38 "java/lang/String" "COMPACT_STRINGS" "Z" ∈ lw_gd := (lw_i1 (List.mem_of_getElem? (i := 51) rfl))
theorem t_Text_29 : ("VectorSolver$Text", 29, 0) ∈ xsl := by decide
theorem t_Text_86 : ("VectorSolver$Text", 86, 1) ∈ xsl := by decide
theorem t_VectorSolverModel_7 : ("VectorSolverModel", 7, 2) ∈ xsl := by decide
theorem t_VectorSolverModel_140 : ("VectorSolverModel", 140, 1) ∈ xsl := by decide
theorem thw_0 : ∀ w ∈ (xThW (xexc.getD 0 "")).filter goodWord, w ∈ lw_gd := by
  have h : xThW (xexc.getD 0 "") = [15, 660, 669, 672, 675, 677, 661, 662, 32, 33, 663, 668, 673, 693, 650, 694, 652, 695, 654, 664, 665, 666, 667, 656, 689, 690, 692, 656, 680, 681, 682, 683, 642, 683, 684, 685, 686, 644, 686, 687, 688, 689, 646, 639, 640, 647, 648, 649, 651, 653, 655, 659, 658, 657].filterMap (fun i => tables_1[i]?) := by decide +kernel
  intro w hw
  obtain ⟨hw, h2⟩ := List.mem_filter.mp hw
  rw [h] at hw
  obtain ⟨i, -, hi⟩ := List.mem_filterMap.mp hw
  exact List.mem_filter.mpr ⟨List.mem_append_right _ (List.mem_of_getElem? hi), h2⟩
theorem tha_0 : (xThW (xexc.getD 0 "")).all (fun w => goodWord w || decide (w ∈ xsoft (xexc.getD 0 ""))) = true := by decide +kernel
theorem thw_1 : ∀ w ∈ (xThW (xexc.getD 1 "")).filter goodWord, w ∈ lw_gd := by
  have h : xThW (xexc.getD 1 "") = [15, 660, 669, 672, 675, 677, 661, 662, 32, 33, 663, 668, 673, 693, 650, 694, 652, 695, 654, 664, 665, 666, 667, 656, 689, 690, 692, 656, 930, 931, 932, 683, 642, 683, 684, 685, 686, 644, 686, 687, 688, 689, 646, 920, 921, 922, 671, 923, 924, 925, 926, 659, 658, 927].filterMap (fun i => tables_1[i]?) := by decide +kernel
  intro w hw
  obtain ⟨hw, h2⟩ := List.mem_filter.mp hw
  rw [h] at hw
  obtain ⟨i, -, hi⟩ := List.mem_filterMap.mp hw
  exact List.mem_filter.mpr ⟨List.mem_append_right _ (List.mem_of_getElem? hi), h2⟩
theorem tha_1 : (xThW (xexc.getD 1 "")).all (fun w => goodWord w || decide (w ∈ xsoft (xexc.getD 1 ""))) = true := by decide +kernel
theorem e_VectorSolver_60_62_64 : xTh "VectorSolver" 60 62 64 0 := ⟨⟨"the text would have more than 65536 bytes", by decide⟩, (lw_i4 (List.mem_of_getElem? (i := 184) rfl)), (lw_i1 (List.mem_of_getElem? (i := 18) rfl)), (lw_i4 (List.mem_of_getElem? (i := 186) rfl)), ⟨thw_0, tha_0, by decide⟩, by decide⟩
theorem e_VectorSolver_60_124_64 : xTh "VectorSolver" 60 124 64 0 := ⟨⟨"none is found", by decide⟩, (lw_i4 (List.mem_of_getElem? (i := 184) rfl)), (lw_i1 (List.mem_of_getElem? (i := 18) rfl)), (lw_i4 (List.mem_of_getElem? (i := 186) rfl)), ⟨thw_0, tha_0, by decide⟩, by decide⟩
theorem e_VectorSolver_60_149_64 : xTh "VectorSolver" 60 149 64 0 := ⟨⟨"none is found, or too much is declared", by decide⟩, (lw_i4 (List.mem_of_getElem? (i := 184) rfl)), (lw_i1 (List.mem_of_getElem? (i := 18) rfl)), (lw_i4 (List.mem_of_getElem? (i := 186) rfl)), ⟨thw_0, tha_0, by decide⟩, by decide⟩
theorem e_VectorSolver_60_206_64 : xTh "VectorSolver" 60 206 64 0 := ⟨⟨"too much is declared, or the effort is used up", by decide⟩, (lw_i4 (List.mem_of_getElem? (i := 184) rfl)), (lw_i1 (List.mem_of_getElem? (i := 18) rfl)), (lw_i4 (List.mem_of_getElem? (i := 186) rfl)), ⟨thw_0, tha_0, by decide⟩, by decide⟩
theorem e_VectorSolver_71_73_75 : xTh "VectorSolver" 71 73 75 1 := ⟨⟨"so many bytes can't go", by decide⟩, (lw_i4 (List.mem_of_getElem? (i := 199) rfl)), (lw_i1 (List.mem_of_getElem? (i := 19) rfl)), (lw_i4 (List.mem_of_getElem? (i := 209) rfl)), ⟨thw_1, tha_1, by decide⟩, by decide⟩
theorem e_VectorSolver_71_86_75 : xTh "VectorSolver" 71 86 75 1 := ⟨⟨"a fault has a kind and a place", by decide⟩, (lw_i4 (List.mem_of_getElem? (i := 199) rfl)), (lw_i1 (List.mem_of_getElem? (i := 19) rfl)), (lw_i4 (List.mem_of_getElem? (i := 209) rfl)), ⟨thw_1, tha_1, by decide⟩, by decide⟩
theorem e_VectorSolver_71_112_75 : xTh "VectorSolver" 71 112 75 1 := ⟨⟨"the name is no Bool", by decide⟩, (lw_i4 (List.mem_of_getElem? (i := 199) rfl)), (lw_i1 (List.mem_of_getElem? (i := 19) rfl)), (lw_i4 (List.mem_of_getElem? (i := 209) rfl)), ⟨thw_1, tha_1, by decide⟩, by decide⟩
theorem e_VectorSolver_71_122_75 : xTh "VectorSolver" 71 122 75 1 := ⟨⟨"there is no such cell", by decide⟩, (lw_i4 (List.mem_of_getElem? (i := 199) rfl)), (lw_i1 (List.mem_of_getElem? (i := 19) rfl)), (lw_i4 (List.mem_of_getElem? (i := 209) rfl)), ⟨thw_1, tha_1, by decide⟩, by decide⟩
theorem e_VectorSolver_71_144_75 : xTh "VectorSolver" 71 144 75 1 := ⟨⟨"the name is an array", by decide⟩, (lw_i4 (List.mem_of_getElem? (i := 199) rfl)), (lw_i1 (List.mem_of_getElem? (i := 19) rfl)), (lw_i4 (List.mem_of_getElem? (i := 209) rfl)), ⟨thw_1, tha_1, by decide⟩, by decide⟩
theorem e_VectorSolver_71_174_75 : xTh "VectorSolver" 71 174 75 1 := ⟨⟨"nothing such is known of a thing", by decide⟩, (lw_i4 (List.mem_of_getElem? (i := 199) rfl)), (lw_i1 (List.mem_of_getElem? (i := 19) rfl)), (lw_i4 (List.mem_of_getElem? (i := 209) rfl)), ⟨thw_1, tha_1, by decide⟩, by decide⟩
theorem e_VectorSolver_71_191_75 : xTh "VectorSolver" 71 191 75 1 := ⟨⟨"nothing such is counted", by decide⟩, (lw_i4 (List.mem_of_getElem? (i := 199) rfl)), (lw_i1 (List.mem_of_getElem? (i := 19) rfl)), (lw_i4 (List.mem_of_getElem? (i := 209) rfl)), ⟨thw_1, tha_1, by decide⟩, by decide⟩
theorem e_VectorSolver_71_193_75 : xTh "VectorSolver" 71 193 75 1 := ⟨⟨"there is no such name", by decide⟩, (lw_i4 (List.mem_of_getElem? (i := 199) rfl)), (lw_i1 (List.mem_of_getElem? (i := 19) rfl)), (lw_i4 (List.mem_of_getElem? (i := 209) rfl)), ⟨thw_1, tha_1, by decide⟩, by decide⟩
theorem e_VectorSolver_71_198_75 : xTh "VectorSolver" 71 198 75 1 := ⟨⟨"there is no such thing", by decide⟩, (lw_i4 (List.mem_of_getElem? (i := 199) rfl)), (lw_i1 (List.mem_of_getElem? (i := 19) rfl)), (lw_i4 (List.mem_of_getElem? (i := 209) rfl)), ⟨thw_1, tha_1, by decide⟩, by decide⟩
theorem e_Text_106_108_110 : xTh "VectorSolver$Text" 106 108 110 0 := ⟨⟨"the text has a fault", by decide⟩, (lw_i3 (List.mem_of_getElem? (i := 158) rfl)), (lw_i1 (List.mem_of_getElem? (i := 18) rfl)), (lw_i3 (List.mem_of_getElem? (i := 199) rfl)), ⟨thw_0, tha_0, by decide⟩, by decide⟩
