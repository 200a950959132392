section RS
variable {γ : xG1} {Y Y' : xMth} {d b0 pc : Nat} {lv : List (Nat × Value)} {st : List Value} {σ : xS} {Q Q' : xO → xS → Prop}
theorem xBody.sl {U : State} (h : xBody (SHP, γ) U) : xsb (SHP, γ) < U.heap.size := by
  obtain ⟨scr, h1, -⟩ := h.2.2.2.2
  exact (Array.getElem?_eq_some_iff.mp h1).1
theorem xJ.slen (hd : decode Y.2.1 pc = .ok (.arraylength, 1)) (k : xJ (SHP, γ) Y d b0 (pc + 1) lv (.int (Int32.ofNat (xsL (SHP, γ))) :: st) σ Q) : xJ (SHP, γ) Y d b0 pc lv (.ref 920 :: st) σ Q := by
  intro p e s m args below meth c E H locs ls hP hS hl hb
  have ha : xV (SHP, γ) (.ref 920) = .ref (xsb (SHP, γ)) := congrArg Value.ref E.bd.2.1.2.2.1
  show W p (xLa (SHP, γ)) e (xR d b0) s m args below meth c H locs _ _ _ (F0 m pc ls (xV (SHP, γ) (.ref 920) :: st.map (xV (SHP, γ))))
  rw [ha]
  exact va_slen E.x E.b E.bd.2.2.2.2 E.bd.sl E.bd.2.1.2.2.2 hS hd (k p e s m args below meth c E H locs ls hP hS hl hb)
theorem xJ.sld {i : Int32} (hd : decode Y.2.1 pc = .ok (.iaload, 1)) (hin : vp_in i (xsL (SHP, γ))) (k : xJ (SHP, γ) Y d b0 (pc + 1) lv (.int (xsx (SHP, γ) i.toNatClampNeg) :: st) σ Q) : xJ (SHP, γ) Y d b0 pc lv (.int i :: .ref 920 :: st) σ Q := by
  intro p e s m args below meth c E H locs ls hP hS hl hb
  have ha : xV (SHP, γ) (.ref 920) = .ref (xsb (SHP, γ)) := congrArg Value.ref E.bd.2.1.2.2.1
  show W p (xLa (SHP, γ)) e (xR d b0) s m args below meth c H locs _ _ _ (F0 m pc ls (.int i :: xV (SHP, γ) (.ref 920) :: st.map (xV (SHP, γ))))
  rw [ha]
  exact va_sld E.x E.b E.bd.2.2.2.2 E.bd.sl E.bd.2.1.2.2.2 hS hin hd (k p e s m args below meth c E H locs ls hP hS hl hb)
end RS
abbrev Y_VectorSolverLaw_law : xMth := (x, code, 8, some .boolean, [])
def cd_VectorSolverLaw_law : List (Nat × Instr × Nat) := [(0, .new 8, 3), (3, .dup, 1), (4, .invokespecial 50, 3), (7, .astore_n 1, 1), (8, .new 51, 3), (11, .dup, 1), (12, .invokespecial 53, 3), (15, .astore_n 2, 1), (16, .iconst 1, 1), (17, .newarray .long, 2), (19, .astore_n 3, 1), (20, .iconst 0, 1), (21, .istore 4, 2), (23, .iload 4, 2), (25, .aload_n 0, 1), (26, .arraylength, 1), (27, .bipush 6, 2), (29, .isub, 1), (30, .if_icmp .gt 750, 3), (33, .aload_n 0, 1), (34, .iload 4, 2), (36, .iaload, 1), (37, .bipush 15, 2), (39, .iand, 1), (40, .tableswitch 734 0 12 #[68, 172, 228, 241, 297, 348, 399, 462, 529, 584, 597, 610, 678], 68), (108, .aload_n 1, 1), (109, .aload_n 0, 1), (110, .iload 4, 2), (112, .iconst 1, 1), (113, .iadd, 1), (114, .iaload, 1), (115, .aload_n 0, 1), (116, .iload 4, 2), (118, .iconst 2, 1), (119, .iadd, 1), (120, .iaload, 1), (121, .aload_n 0, 1), (122, .iload 4, 2), (124, .iconst 3, 1), (125, .iadd, 1), (126, .iaload, 1), (127, .aload_n 0, 1), (128, .iload 4, 2), (130, .iconst 4, 1), (131, .iadd, 1), (132, .iaload, 1), (133, .aload_n 0, 1), (134, .iload 4, 2), (136, .iconst 5, 1), (137, .iadd, 1), (138, .iaload, 1), (139, .aload_n 3, 1), (140, .invokestatic 54, 3), (143, .istore 5, 2), (145, .aload_n 2, 1), (146, .aload_n 0, 1), (147, .iload 4, 2), (149, .iconst 1, 1), (150, .iadd, 1), (151, .iaload, 1), (152, .aload_n 0, 1), (153, .iload 4, 2), (155, .iconst 2, 1), (156, .iadd, 1), (157, .iaload, 1), (158, .aload_n 0, 1), (159, .iload 4, 2), (161, .iconst 3, 1), (162, .iadd, 1), (163, .iaload, 1), (164, .aload_n 0, 1), (165, .iload 4, 2), (167, .iconst 4, 1), (168, .iadd, 1), (169, .iaload, 1), (170, .aload_n 0, 1), (171, .iload 4, 2), (173, .iconst 5, 1), (174, .iadd, 1), (175, .iaload, 1), (176, .invokevirtual 59, 3), (179, .istore 6, 2), (181, .aload_n 2, 1), (182, .invokevirtual 60, 3), (185, .iload 5, 2), (187, .if_icmp .eq 5, 3), (190, .iconst 0, 1), (191, .ireturn, 1), (192, .iload 5, 2), (194, .ifCond .ne 15, 3), (197, .aload_n 3, 1), (198, .iconst 0, 1), (199, .laload, 1), (200, .iload 6, 2), (202, .i2l, 1), (203, .lcmp, 1), (204, .ifCond .eq 5, 3), (207, .iconst 0, 1), (208, .ireturn, 1), (209, .goto 565, 3), (212, .aload_n 1, 1), (213, .aload_n 0, 1), (214, .iload 4, 2), (216, .iconst 1, 1), (217, .iadd, 1), (218, .iaload, 1), (219, .aload_n 3, 1), (220, .invokestatic 64, 3), (223, .istore 5, 2), (225, .aload_n 2, 1), (226, .aload_n 0, 1), (227, .iload 4, 2), (229, .iconst 1, 1), (230, .iadd, 1), (231, .iaload, 1), (232, .invokevirtual 67, 3), (235, .istore 6, 2), (237, .aload_n 2, 1), (238, .invokevirtual 60, 3), (241, .iload 5, 2), (243, .if_icmp .eq 5, 3), (246, .iconst 0, 1), (247, .ireturn, 1), (248, .iload 5, 2), (250, .ifCond .ne 15, 3), (253, .aload_n 3, 1), (254, .iconst 0, 1), (255, .laload, 1), (256, .iload 6, 2), (258, .i2l, 1), (259, .lcmp, 1), (260, .ifCond .eq 5, 3), (263, .iconst 0, 1), (264, .ireturn, 1), (265, .goto 509, 3), (268, .aload_n 1, 1), (269, .invokevirtual 68, 3), (272, .aload_n 2, 1), (273, .invokevirtual 71, 3), (276, .if_icmp .eq 498, 3), (279, .iconst 0, 1), (280, .ireturn, 1), (281, .aload_n 1, 1), (282, .aload_n 0, 1), (283, .iload 4, 2), (285, .iconst 1, 1), (286, .iadd, 1), (287, .iaload, 1), (288, .aload_n 3, 1), (289, .invokestatic 72, 3), (292, .istore 5, 2), (294, .aload_n 2, 1), (295, .aload_n 0, 1), (296, .iload 4, 2), (298, .iconst 1, 1), (299, .iadd, 1), (300, .iaload, 1), (301, .invokevirtual 74, 3), (304, .istore 6, 2), (306, .aload_n 2, 1), (307, .invokevirtual 60, 3), (310, .iload 5, 2), (312, .if_icmp .eq 5, 3), (315, .iconst 0, 1), (316, .ireturn, 1), (317, .iload 5, 2), (319, .ifCond .ne 15, 3), (322, .aload_n 3, 1), (323, .iconst 0, 1), (324, .laload, 1), (325, .iload 6, 2), (327, .i2l, 1), (328, .lcmp, 1), (329, .ifCond .eq 5, 3), (332, .iconst 0, 1), (333, .ireturn, 1), (334, .goto 440, 3), (337, .aload_n 1, 1), (338, .aload_n 3, 1), (339, .invokestatic 75, 3), (342, .istore 5, 2), (344, .aload_n 2, 1), (345, .invokevirtual 78, 3), (348, .istore 6, 2), (350, .aload_n 2, 1), (351, .invokevirtual 60, 3), (354, .iload 5, 2), (356, .if_icmp .eq 5, 3), (359, .iconst 0, 1), (360, .ireturn, 1), (361, .iload 5, 2), (363, .ifCond .ne 22, 3), (366, .aload_n 3, 1), (367, .iconst 0, 1), (368, .laload, 1), (369, .iload 6, 2), (371, .ifCond .eq 7, 3), (374, .lconst 1, 1), (375, .goto 4, 3), (378, .lconst 0, 1), (379, .lcmp, 1), (380, .ifCond .eq 5, 3), (383, .iconst 0, 1), (384, .ireturn, 1), (385, .goto 389, 3), (388, .aload_n 1, 1), (389, .aload_n 3, 1), (390, .invokestatic 79, 3), (393, .istore 5, 2), (395, .aload_n 2, 1), (396, .invokevirtual 81, 3), (399, .istore 6, 2), (401, .aload_n 2, 1), (402, .invokevirtual 60, 3), (405, .iload 5, 2), (407, .if_icmp .eq 5, 3), (410, .iconst 0, 1), (411, .ireturn, 1), (412, .iload 5, 2), (414, .ifCond .ne 22, 3), (417, .aload_n 3, 1), (418, .iconst 0, 1), (419, .laload, 1), (420, .iload 6, 2), (422, .ifCond .eq 7, 3), (425, .lconst 1, 1), (426, .goto 4, 3), (429, .lconst 0, 1), (430, .lcmp, 1), (431, .ifCond .eq 5, 3), (434, .iconst 0, 1), (435, .ireturn, 1), (436, .goto 338, 3), (439, .aload_n 1, 1), (440, .aload_n 0, 1), (441, .iload 4, 2), (443, .iconst 1, 1), (444, .iadd, 1), (445, .iaload, 1), (446, .aload_n 3, 1), (447, .invokestatic 82, 3), (450, .istore 5, 2), (452, .aload_n 2, 1), (453, .aload_n 0, 1), (454, .iload 4, 2), (456, .iconst 1, 1), (457, .iadd, 1), (458, .iaload, 1), (459, .invokevirtual 84, 3), (462, .istore 6, 2), (464, .aload_n 2, 1), (465, .invokevirtual 60, 3), (468, .iload 5, 2), (470, .if_icmp .eq 5, 3), (473, .iconst 0, 1), (474, .ireturn, 1), (475, .iload 5, 2), (477, .ifCond .ne 22, 3), (480, .aload_n 3, 1), (481, .iconst 0, 1), (482, .laload, 1), (483, .iload 6, 2), (485, .ifCond .eq 7, 3), (488, .lconst 1, 1), (489, .goto 4, 3), (492, .lconst 0, 1), (493, .lcmp, 1), (494, .ifCond .eq 5, 3), (497, .iconst 0, 1), (498, .ireturn, 1), (499, .goto 275, 3), (502, .aload_n 1, 1), (503, .aload_n 0, 1), (504, .iload 4, 2), (506, .iconst 1, 1), (507, .iadd, 1), (508, .iaload, 1), (509, .aload_n 0, 1), (510, .iload 4, 2), (512, .iconst 2, 1), (513, .iadd, 1), (514, .iaload, 1), (515, .aload_n 3, 1), (516, .invokestatic 85, 3), (519, .istore 5, 2), (521, .aload_n 2, 1), (522, .aload_n 0, 1), (523, .iload 4, 2), (525, .iconst 1, 1), (526, .iadd, 1), (527, .iaload, 1), (528, .aload_n 0, 1), (529, .iload 4, 2), (531, .iconst 2, 1), (532, .iadd, 1), (533, .iaload, 1), (534, .invokevirtual 88, 3), (537, .lstore 6, 2), (539, .aload_n 2, 1), (540, .invokevirtual 60, 3), (543, .iload 5, 2), (545, .if_icmp .eq 5, 3), (548, .iconst 0, 1), (549, .ireturn, 1), (550, .iload 5, 2), (552, .ifCond .ne 14, 3), (555, .aload_n 3, 1), (556, .iconst 0, 1), (557, .laload, 1), (558, .lload 6, 2), (560, .lcmp, 1), (561, .ifCond .eq 5, 3), (564, .iconst 0, 1), (565, .ireturn, 1), (566, .goto 208, 3), (569, .aload_n 1, 1), (570, .aload_n 0, 1), (571, .iload 4, 2), (573, .iconst 1, 1), (574, .iadd, 1), (575, .iaload, 1), (576, .aload_n 3, 1), (577, .invokestatic 89, 3), (580, .istore 5, 2), (582, .aload_n 2, 1), (583, .aload_n 0, 1), (584, .iload 4, 2), (586, .iconst 1, 1), (587, .iadd, 1), (588, .iaload, 1), (589, .invokevirtual 91, 3), (592, .lstore 6, 2), (594, .aload_n 2, 1), (595, .invokevirtual 60, 3), (598, .iload 5, 2), (600, .if_icmp .eq 5, 3), (603, .iconst 0, 1), (604, .ireturn, 1), (605, .iload 5, 2), (607, .ifCond .ne 14, 3), (610, .aload_n 3, 1), (611, .iconst 0, 1), (612, .laload, 1), (613, .lload 6, 2), (615, .lcmp, 1), (616, .ifCond .eq 5, 3), (619, .iconst 0, 1), (620, .ireturn, 1), (621, .goto 153, 3), (624, .aload_n 1, 1), (625, .invokevirtual 92, 3), (628, .aload_n 2, 1), (629, .invokevirtual 95, 3), (632, .if_icmp .eq 142, 3), (635, .iconst 0, 1), (636, .ireturn, 1), (637, .aload_n 1, 1), (638, .invokevirtual 96, 3), (641, .aload_n 2, 1), (642, .invokevirtual 99, 3), (645, .if_icmp .eq 129, 3), (648, .iconst 0, 1), (649, .ireturn, 1), (650, .aload_n 1, 1), (651, .aload_n 0, 1), (652, .iload 4, 2), (654, .iconst 1, 1), (655, .iadd, 1), (656, .iaload, 1), (657, .aload_n 0, 1), (658, .iload 4, 2), (660, .iconst 2, 1), (661, .iadd, 1), (662, .iaload, 1), (663, .aload_n 3, 1), (664, .invokestatic 100, 3), (667, .istore 5, 2), (669, .aload_n 2, 1), (670, .aload_n 0, 1), (671, .iload 4, 2), (673, .iconst 1, 1), (674, .iadd, 1), (675, .iaload, 1), (676, .aload_n 0, 1), (677, .iload 4, 2), (679, .iconst 2, 1), (680, .iadd, 1), (681, .iaload, 1), (682, .invokevirtual 102, 3), (685, .istore 6, 2), (687, .aload_n 2, 1), (688, .invokevirtual 60, 3), (691, .iload 5, 2), (693, .if_icmp .eq 5, 3), (696, .iconst 0, 1), (697, .ireturn, 1), (698, .iload 5, 2), (700, .ifCond .ne 15, 3), (703, .aload_n 3, 1), (704, .iconst 0, 1), (705, .laload, 1), (706, .iload 6, 2), (708, .i2l, 1), (709, .lcmp, 1), (710, .ifCond .eq 5, 3), (713, .iconst 0, 1), (714, .ireturn, 1), (715, .goto 59, 3), (718, .aload_n 1, 1), (719, .aload_n 0, 1), (720, .iload 4, 2), (722, .iconst 1, 1), (723, .iadd, 1), (724, .iaload, 1), (725, .aload_n 3, 1), (726, .invokestatic 103, 3), (729, .istore 5, 2), (731, .aload_n 2, 1), (732, .aload_n 0, 1), (733, .iload 4, 2), (735, .iconst 1, 1), (736, .iadd, 1), (737, .iaload, 1), (738, .invokevirtual 105, 3), (741, .istore 6, 2), (743, .aload_n 2, 1), (744, .invokevirtual 60, 3), (747, .iload 5, 2), (749, .if_icmp .eq 5, 3), (752, .iconst 0, 1), (753, .ireturn, 1), (754, .iload 5, 2), (756, .ifCond .ne 15, 3), (759, .aload_n 3, 1), (760, .iconst 0, 1), (761, .laload, 1), (762, .iload 6, 2), (764, .i2l, 1), (765, .lcmp, 1), (766, .ifCond .eq 5, 3), (769, .iconst 0, 1), (770, .ireturn, 1), (771, .goto 3, 3), (774, .iinc 4 6, 3), (777, .goto (-754), 3), (780, .iconst 1, 1), (781, .ireturn, 1)]
theorem oc_cut {α : Type} {l : List α} {f : α → Bool} (k : Nat) (h1 : (l.take k).all f = true) (h2 : (l.drop k).all f = true) : l.all f = true := by
  rw [← List.take_append_drop k l, List.all_append, h1, h2]; rfl
theorem oc_VectorSolverLaw_0 : (((cd_VectorSolverLaw_law).take 40).all fun q => decide (decode code q.1 = .ok q.2)) = true := by decide +kernel
theorem oc_VectorSolverLaw_1 : ((((cd_VectorSolverLaw_law).drop 40).take 40).all fun q => decide (decode code q.1 = .ok q.2)) = true := by decide +kernel
theorem oc_VectorSolverLaw_2 : (((((cd_VectorSolverLaw_law).drop 40).drop 40).take 40).all fun q => decide (decode code q.1 = .ok q.2)) = true := by decide +kernel
theorem oc_VectorSolverLaw_3 : ((((((cd_VectorSolverLaw_law).drop 40).drop 40).drop 40).take 40).all fun q => decide (decode code q.1 = .ok q.2)) = true := by decide +kernel
theorem oc_VectorSolverLaw_4 : (((((((cd_VectorSolverLaw_law).drop 40).drop 40).drop 40).drop 40).take 40).all fun q => decide (decode code q.1 = .ok q.2)) = true := by decide +kernel
theorem oc_VectorSolverLaw_5 : ((((((((cd_VectorSolverLaw_law).drop 40).drop 40).drop 40).drop 40).drop 40).take 40).all fun q => decide (decode code q.1 = .ok q.2)) = true := by decide +kernel
theorem oc_VectorSolverLaw_6 : (((((((((cd_VectorSolverLaw_law).drop 40).drop 40).drop 40).drop 40).drop 40).drop 40).take 40).all fun q => decide (decode code q.1 = .ok q.2)) = true := by decide +kernel
theorem oc_VectorSolverLaw_7 : ((((((((((cd_VectorSolverLaw_law).drop 40).drop 40).drop 40).drop 40).drop 40).drop 40).drop 40).take 40).all fun q => decide (decode code q.1 = .ok q.2)) = true := by decide +kernel
theorem oc_VectorSolverLaw_8 : (((((((((((cd_VectorSolverLaw_law).drop 40).drop 40).drop 40).drop 40).drop 40).drop 40).drop 40).drop 40).take 40).all fun q => decide (decode code q.1 = .ok q.2)) = true := by decide +kernel
theorem oc_VectorSolverLaw_9 : ((((((((((((cd_VectorSolverLaw_law).drop 40).drop 40).drop 40).drop 40).drop 40).drop 40).drop 40).drop 40).drop 40).take 40).all fun q => decide (decode code q.1 = .ok q.2)) = true := by decide +kernel
theorem oc_VectorSolverLaw_10 : (((((((((((((cd_VectorSolverLaw_law).drop 40).drop 40).drop 40).drop 40).drop 40).drop 40).drop 40).drop 40).drop 40).drop 40).take 40).all fun q => decide (decode code q.1 = .ok q.2)) = true := by decide +kernel
theorem oc_VectorSolverLaw_11 : (((((((((((((cd_VectorSolverLaw_law).drop 40).drop 40).drop 40).drop 40).drop 40).drop 40).drop 40).drop 40).drop 40).drop 40).drop 40).all fun q => decide (decode code q.1 = .ok q.2)) = true := by decide +kernel
theorem oa_VectorSolverLaw_law : (cd_VectorSolverLaw_law.all fun q => decide (decode code q.1 = .ok q.2)) = true := oc_cut 40 oc_VectorSolverLaw_0 (oc_cut 40 oc_VectorSolverLaw_1 (oc_cut 40 oc_VectorSolverLaw_2 (oc_cut 40 oc_VectorSolverLaw_3 (oc_cut 40 oc_VectorSolverLaw_4 (oc_cut 40 oc_VectorSolverLaw_5 (oc_cut 40 oc_VectorSolverLaw_6 (oc_cut 40 oc_VectorSolverLaw_7 (oc_cut 40 oc_VectorSolverLaw_8 (oc_cut 40 oc_VectorSolverLaw_9 (oc_cut 40 oc_VectorSolverLaw_10 (oc_VectorSolverLaw_11)))))))))))
theorem o_VectorSolverLaw_law (i : Nat) {pc : Nat} {ins : Instr} {len : Nat} (h : cd_VectorSolverLaw_law[i]? = some (pc, ins, len)) : decode code pc = .ok (ins, len) := xo oa_VectorSolverLaw_law h
theorem m_VectorSolverLaw_54 : Cond.methodLink "VectorSolverLaw" 54 Y_VectorSolverLaw_feed.1 ∈ lw_gd := (lw_i4 (List.mem_of_getElem? (i := 175) rfl))
theorem m_VectorSolverLaw_59 : Cond.methodLink "VectorSolverLaw" 59 Y_VectorSolverModel_feed.1 ∈ lw_gd := (lw_i7 (List.mem_of_getElem? (i := 136) rfl))
theorem m_VectorSolverLaw_60 : Cond.methodLink "VectorSolverLaw" 60 Y_VectorSolverModel_thrown.1 ∈ lw_gd := (lw_i7 (List.mem_of_getElem? (i := 132) rfl))
theorem m_VectorSolverLaw_64 : Cond.methodLink "VectorSolverLaw" 64 Y_VectorSolverLaw_trim.1 ∈ lw_gd := (lw_i4 (List.mem_of_getElem? (i := 191) rfl))
theorem m_VectorSolverLaw_67 : Cond.methodLink "VectorSolverLaw" 67 Y_VectorSolverModel_trim.1 ∈ lw_gd := (lw_i7 (List.mem_of_getElem? (i := 144) rfl))
theorem m_VectorSolverLaw_68 : Cond.methodLink "VectorSolverLaw" 68 Y_VectorSolver_read.1 ∈ lw_gd := (lw_i3 (List.mem_of_getElem? (i := 22) rfl))
theorem m_VectorSolverLaw_71 : Cond.methodLink "VectorSolverLaw" 71 Y_VectorSolverModel_read.1 ∈ lw_gd := (lw_i7 (List.mem_of_getElem? (i := 148) rfl))
theorem m_VectorSolverLaw_72 : Cond.methodLink "VectorSolverLaw" 72 Y_VectorSolverLaw_fault.1 ∈ lw_gd := (lw_i4 (List.mem_of_getElem? (i := 215) rfl))
theorem m_VectorSolverLaw_74 : Cond.methodLink "VectorSolverLaw" 74 Y_VectorSolverModel_fault.1 ∈ lw_gd := (lw_i8 (List.mem_of_getElem? (i := 70) rfl))
theorem m_VectorSolverLaw_75 : Cond.methodLink "VectorSolverLaw" 75 Y_VectorSolverLaw_check.1 ∈ lw_gd := (lw_i4 (List.mem_of_getElem? (i := 223) rfl))
theorem m_VectorSolverLaw_78 : Cond.methodLink "VectorSolverLaw" 78 Y_VectorSolverModel_check.1 ∈ lw_gd := (lw_i8 (List.mem_of_getElem? (i := 74) rfl))
theorem m_VectorSolverLaw_79 : Cond.methodLink "VectorSolverLaw" 79 Y_VectorSolverLaw_more.1 ∈ lw_gd := (lw_i6 (List.mem_of_getElem? (i := 115) rfl))
theorem m_VectorSolverLaw_81 : Cond.methodLink "VectorSolverLaw" 81 Y_VectorSolverModel_more.1 ∈ lw_gd := (lw_i8 (List.mem_of_getElem? (i := 153) rfl))
theorem m_VectorSolverLaw_82 : Cond.methodLink "VectorSolverLaw" 82 Y_VectorSolverLaw_suppose.1 ∈ lw_gd := (lw_i6 (List.mem_of_getElem? (i := 126) rfl))
theorem m_VectorSolverLaw_84 : Cond.methodLink "VectorSolverLaw" 84 Y_VectorSolverModel_suppose.1 ∈ lw_gd := (lw_i8 (List.mem_of_getElem? (i := 157) rfl))
theorem m_VectorSolverLaw_85 : Cond.methodLink "VectorSolverLaw" 85 Y_VectorSolverLaw_value.1 ∈ lw_gd := (lw_i6 (List.mem_of_getElem? (i := 139) rfl))
theorem m_VectorSolverLaw_88 : Cond.methodLink "VectorSolverLaw" 88 Y_VectorSolverModel_value.1 ∈ lw_gd := (lw_i8 (List.mem_of_getElem? (i := 161) rfl))
theorem m_VectorSolverLaw_89 : Cond.methodLink "VectorSolverLaw" 89 Y_VectorSolverLaw_named.1 ∈ lw_gd := (lw_i6 (List.mem_of_getElem? (i := 158) rfl))
theorem m_VectorSolverLaw_91 : Cond.methodLink "VectorSolverLaw" 91 Y_VectorSolverModel_named.1 ∈ lw_gd := (lw_i8 (List.mem_of_getElem? (i := 165) rfl))
theorem m_VectorSolverLaw_92 : Cond.methodLink "VectorSolverLaw" 92 Y_VectorSolver_missed.1 ∈ lw_gd := (lw_i4 (List.mem_of_getElem? (i := 167) rfl))
theorem m_VectorSolverLaw_95 : Cond.methodLink "VectorSolverLaw" 95 Y_VectorSolverModel_missed.1 ∈ lw_gd := (lw_i8 (List.mem_of_getElem? (i := 169) rfl))
theorem m_VectorSolverLaw_96 : Cond.methodLink "VectorSolverLaw" 96 Y_VectorSolver_refused.1 ∈ lw_gd := (lw_i4 (List.mem_of_getElem? (i := 171) rfl))
theorem m_VectorSolverLaw_99 : Cond.methodLink "VectorSolverLaw" 99 Y_VectorSolverModel_refused.1 ∈ lw_gd := (lw_i8 (List.mem_of_getElem? (i := 173) rfl))
theorem m_VectorSolverLaw_100 : Cond.methodLink "VectorSolverLaw" 100 Y_VectorSolverLaw_thing.1 ∈ lw_gd := (lw_i6 (List.mem_of_getElem? (i := 168) rfl))
theorem m_VectorSolverLaw_102 : Cond.methodLink "VectorSolverLaw" 102 Y_VectorSolverModel_thing.1 ∈ lw_gd := (lw_i8 (List.mem_of_getElem? (i := 177) rfl))
theorem m_VectorSolverLaw_103 : Cond.methodLink "VectorSolverLaw" 103 Y_VectorSolverLaw_count.1 ∈ lw_gd := (lw_i6 (List.mem_of_getElem? (i := 178) rfl))
theorem m_VectorSolverLaw_105 : Cond.methodLink "VectorSolverLaw" 105 Y_VectorSolverModel_count.1 ∈ lw_gd := (lw_i8 (List.mem_of_getElem? (i := 181) rfl))
theorem sc_VectorSolverLaw_law_40 {x : Int32} {P : Nat → Prop} (k0 : x = 0 → P 108) (k1 : x = 1 → P 212) (k2 : x = 2 → P 268) (k3 : x = 3 → P 281) (k4 : x = 4 → P 337) (k5 : x = 5 → P 388) (k6 : x = 6 → P 439) (k7 : x = 7 → P 502) (k8 : x = 8 → P 569) (k9 : x = 9 → P 624) (k10 : x = 10 → P 637) (k11 : x = 11 → P 650) (k12 : x = 12 → P 718) (kd : ¬ x = 0 ∧ ¬ x = 1 ∧ ¬ x = 2 ∧ ¬ x = 3 ∧ ¬ x = 4 ∧ ¬ x = 5 ∧ ¬ x = 6 ∧ ¬ x = 7 ∧ ¬ x = 8 ∧ ¬ x = 9 ∧ ¬ x = 10 ∧ ¬ x = 11 ∧ ¬ x = 12 → P 774) : ∃ t : Nat, xdst 40 734 0 12 #[68, 172, 228, 241, 297, 348, 399, 462, 529, 584, 597, 610, 678] x = (t : Int) ∧ P t := by
  by_cases h0_0 : x = 0
  · subst h0_0; exact ⟨108, by decide, k0 (rfl)⟩
  by_cases h1_0 : x = 1
  · subst h1_0; exact ⟨212, by decide, k1 (rfl)⟩
  by_cases h2_0 : x = 2
  · subst h2_0; exact ⟨268, by decide, k2 (rfl)⟩
  by_cases h3_0 : x = 3
  · subst h3_0; exact ⟨281, by decide, k3 (rfl)⟩
  by_cases h4_0 : x = 4
  · subst h4_0; exact ⟨337, by decide, k4 (rfl)⟩
  by_cases h5_0 : x = 5
  · subst h5_0; exact ⟨388, by decide, k5 (rfl)⟩
  by_cases h6_0 : x = 6
  · subst h6_0; exact ⟨439, by decide, k6 (rfl)⟩
  by_cases h7_0 : x = 7
  · subst h7_0; exact ⟨502, by decide, k7 (rfl)⟩
  by_cases h8_0 : x = 8
  · subst h8_0; exact ⟨569, by decide, k8 (rfl)⟩
  by_cases h9_0 : x = 9
  · subst h9_0; exact ⟨624, by decide, k9 (rfl)⟩
  by_cases h10_0 : x = 10
  · subst h10_0; exact ⟨637, by decide, k10 (rfl)⟩
  by_cases h11_0 : x = 11
  · subst h11_0; exact ⟨650, by decide, k11 (rfl)⟩
  by_cases h12_0 : x = 12
  · subst h12_0; exact ⟨718, by decide, k12 (rfl)⟩
  have nh0_0 := lv_neT h0_0 (show (0 : Int32).toInt = 0 by decide)
  have nh1_0 := lv_neT h1_0 (show (1 : Int32).toInt = 1 by decide)
  have nh2_0 := lv_neT h2_0 (show (2 : Int32).toInt = 2 by decide)
  have nh3_0 := lv_neT h3_0 (show (3 : Int32).toInt = 3 by decide)
  have nh4_0 := lv_neT h4_0 (show (4 : Int32).toInt = 4 by decide)
  have nh5_0 := lv_neT h5_0 (show (5 : Int32).toInt = 5 by decide)
  have nh6_0 := lv_neT h6_0 (show (6 : Int32).toInt = 6 by decide)
  have nh7_0 := lv_neT h7_0 (show (7 : Int32).toInt = 7 by decide)
  have nh8_0 := lv_neT h8_0 (show (8 : Int32).toInt = 8 by decide)
  have nh9_0 := lv_neT h9_0 (show (9 : Int32).toInt = 9 by decide)
  have nh10_0 := lv_neT h10_0 (show (10 : Int32).toInt = 10 by decide)
  have nh11_0 := lv_neT h11_0 (show (11 : Int32).toInt = 11 by decide)
  have nh12_0 := lv_neT h12_0 (show (12 : Int32).toInt = 12 by decide)
  refine ⟨774, ?_, kd ⟨h0_0, h1_0, h2_0, h3_0, h4_0, h5_0, h6_0, h7_0, h8_0, h9_0, h10_0, h11_0, h12_0⟩⟩
  exact xdst_out (by omega) rfl
def w_VectorSolverLaw_law_379 (L : Nat) (xs : Nat → Int32) (Q : xO → xS → Prop) (K23 : Int32 → xS → Prop) (a4 : Int32) (t0 : Int64) (t1 : Int64) (σ : xS) : Prop :=
  (((lg_cmp t0 t1) = 0 → (∀ x37 : Int32, x37 = a4 + 6 → K23 x37 σ)) ∧ (¬ (lg_cmp t0 t1) = 0 → Q (.inl (some (.int 0))) σ))
def w_VectorSolverLaw_law_430 (L : Nat) (xs : Nat → Int32) (Q : xO → xS → Prop) (K23 : Int32 → xS → Prop) (a4 : Int32) (t0 : Int64) (t1 : Int64) (σ : xS) : Prop :=
  (((lg_cmp t0 t1) = 0 → (∀ x45 : Int32, x45 = a4 + 6 → K23 x45 σ)) ∧ (¬ (lg_cmp t0 t1) = 0 → Q (.inl (some (.int 0))) σ))
def w_VectorSolverLaw_law_493 (L : Nat) (xs : Nat → Int32) (Q : xO → xS → Prop) (K23 : Int32 → xS → Prop) (a4 : Int32) (t0 : Int64) (t1 : Int64) (σ : xS) : Prop :=
  (((lg_cmp t0 t1) = 0 → (∀ x53 : Int32, x53 = a4 + 6 → K23 x53 σ)) ∧ (¬ (lg_cmp t0 t1) = 0 → Q (.inl (some (.int 0))) σ))
def w_VectorSolverLaw_law_23 (L : Nat) (xs : Nat → Int32) (Q : xO → xS → Prop) : Nat → Int32 → xS → Prop
  | 0 => fun _ _ => False
  | n + 1 => fun a4 σ =>
    ((((Int32.ofNat L) - 6) < a4 → Q (.inl (some (.int 1))) σ) ∧ (¬ ((Int32.ofNat L) - 6) < a4 → (vp_in a4 L ∧ ((((xs a4.toNatClampNeg) &&& 15) = 0 → (vp_in (a4 + 1) L ∧ (vp_in (a4 + 2) L ∧ (vp_in (a4 + 3) L ∧ (vp_in (a4 + 4) L ∧ (vp_in (a4 + 5) L ∧ wp_VectorSolverLaw_feed_0_84 (xqi (fun r2 u1 => (vp_in (a4 + 1) L ∧ (vp_in (a4 + 2) L ∧ (vp_in (a4 + 3) L ∧ (vp_in (a4 + 4) L ∧ (vp_in (a4 + 5) L ∧ wp_VectorSolverModel_feed (xqi (fun r4 u3 => wp_VectorSolverModel_thrown (xqi (fun r6 u5 => ((r6 = r2 → ((¬ r2 = 0 → (∀ x7 : Int32, x7 = a4 + 6 → w_VectorSolverLaw_law_23 L xs Q n x7 u5)) ∧ (r2 = 0 → (vp_in 0 1 ∧ (((lg_cmp (xl u5 84 (0 : Int32).toNatClampNeg) r4.toInt64) = 0 → (∀ x8 : Int32, x8 = a4 + 6 → w_VectorSolverLaw_law_23 L xs Q n x8 u5)) ∧ (¬ (lg_cmp (xl u5 84 (0 : Int32).toNatClampNeg) r4.toInt64) = 0 → Q (.inl (some (.int 0))) u5)))))) ∧ (¬ r6 = r2 → Q (.inl (some (.int 0))) u5))) (fun n u => Q (.inr n) u)) u3 ) (fun n u => Q (.inr n) u)) u1 (xs (a4 + 1).toNatClampNeg) (xs (a4 + 2).toNatClampNeg) (xs (a4 + 3).toNatClampNeg) (xs (a4 + 4).toNatClampNeg) (xs (a4 + 5).toNatClampNeg))))))) (fun n u => Q (.inr n) u)) σ (xs (a4 + 1).toNatClampNeg) (xs (a4 + 2).toNatClampNeg) (xs (a4 + 3).toNatClampNeg) (xs (a4 + 4).toNatClampNeg) (xs (a4 + 5).toNatClampNeg))))))) ∧ (((xs a4.toNatClampNeg) &&& 15) = 1 → (vp_in (a4 + 1) L ∧ wp_VectorSolverLaw_trim_0_84 (xqi (fun r10 u9 => (vp_in (a4 + 1) L ∧ wp_VectorSolverModel_trim (xqi (fun r12 u11 => wp_VectorSolverModel_thrown (xqi (fun r14 u13 => ((r14 = r10 → ((¬ r10 = 0 → (∀ x15 : Int32, x15 = a4 + 6 → w_VectorSolverLaw_law_23 L xs Q n x15 u13)) ∧ (r10 = 0 → (vp_in 0 1 ∧ (((lg_cmp (xl u13 84 (0 : Int32).toNatClampNeg) r12.toInt64) = 0 → (∀ x16 : Int32, x16 = a4 + 6 → w_VectorSolverLaw_law_23 L xs Q n x16 u13)) ∧ (¬ (lg_cmp (xl u13 84 (0 : Int32).toNatClampNeg) r12.toInt64) = 0 → Q (.inl (some (.int 0))) u13)))))) ∧ (¬ r14 = r10 → Q (.inl (some (.int 0))) u13))) (fun n u => Q (.inr n) u)) u11 ) (fun n u => Q (.inr n) u)) u9 (xs (a4 + 1).toNatClampNeg))) (fun n u => Q (.inr n) u)) σ (xs (a4 + 1).toNatClampNeg))) ∧ (((xs a4.toNatClampNeg) &&& 15) = 2 → wp_VectorSolver_read (xqi (fun r18 u17 => wp_VectorSolverModel_read (xqi (fun r20 u19 => ((r18 = r20 → (∀ x21 : Int32, x21 = a4 + 6 → w_VectorSolverLaw_law_23 L xs Q n x21 u19)) ∧ (¬ r18 = r20 → Q (.inl (some (.int 0))) u19))) (fun n u => Q (.inr n) u)) u17 ) (fun n u => Q (.inr n) u)) σ ) ∧ (((xs a4.toNatClampNeg) &&& 15) = 3 → (vp_in (a4 + 1) L ∧ wp_VectorSolverLaw_fault_0_84 (xqi (fun r23 u22 => (vp_in (a4 + 1) L ∧ wp_VectorSolverModel_fault (xqi (fun r25 u24 => wp_VectorSolverModel_thrown (xqi (fun r27 u26 => ((r27 = r23 → ((¬ r23 = 0 → (∀ x28 : Int32, x28 = a4 + 6 → w_VectorSolverLaw_law_23 L xs Q n x28 u26)) ∧ (r23 = 0 → (vp_in 0 1 ∧ (((lg_cmp (xl u26 84 (0 : Int32).toNatClampNeg) r25.toInt64) = 0 → (∀ x29 : Int32, x29 = a4 + 6 → w_VectorSolverLaw_law_23 L xs Q n x29 u26)) ∧ (¬ (lg_cmp (xl u26 84 (0 : Int32).toNatClampNeg) r25.toInt64) = 0 → Q (.inl (some (.int 0))) u26)))))) ∧ (¬ r27 = r23 → Q (.inl (some (.int 0))) u26))) (fun n u => Q (.inr n) u)) u24 ) (fun n u => Q (.inr n) u)) u22 (xs (a4 + 1).toNatClampNeg))) (fun n u => Q (.inr n) u)) σ (xs (a4 + 1).toNatClampNeg))) ∧ (((xs a4.toNatClampNeg) &&& 15) = 4 → wp_VectorSolverLaw_check_0_84 (xqi (fun r31 u30 => wp_VectorSolverModel_check (xqi (fun r33 u32 => wp_VectorSolverModel_thrown (xqi (fun r35 u34 => ((r35 = r31 → ((¬ r31 = 0 → (∀ x36 : Int32, x36 = a4 + 6 → w_VectorSolverLaw_law_23 L xs Q n x36 u34)) ∧ (r31 = 0 → (vp_in 0 1 ∧ ((r33 = 0 → w_VectorSolverLaw_law_379 L xs Q (w_VectorSolverLaw_law_23 L xs Q n) a4 (xl u34 84 (0 : Int32).toNatClampNeg) 0 u34) ∧ (¬ r33 = 0 → w_VectorSolverLaw_law_379 L xs Q (w_VectorSolverLaw_law_23 L xs Q n) a4 (xl u34 84 (0 : Int32).toNatClampNeg) 1 u34)))))) ∧ (¬ r35 = r31 → Q (.inl (some (.int 0))) u34))) (fun n u => Q (.inr n) u)) u32 ) (fun n u => Q (.inr n) u)) u30 ) (fun n u => Q (.inr n) u)) σ ) ∧ (((xs a4.toNatClampNeg) &&& 15) = 5 → wp_VectorSolverLaw_more_0_84 (xqi (fun r39 u38 => wp_VectorSolverModel_more (xqi (fun r41 u40 => wp_VectorSolverModel_thrown (xqi (fun r43 u42 => ((r43 = r39 → ((¬ r39 = 0 → (∀ x44 : Int32, x44 = a4 + 6 → w_VectorSolverLaw_law_23 L xs Q n x44 u42)) ∧ (r39 = 0 → (vp_in 0 1 ∧ ((r41 = 0 → w_VectorSolverLaw_law_430 L xs Q (w_VectorSolverLaw_law_23 L xs Q n) a4 (xl u42 84 (0 : Int32).toNatClampNeg) 0 u42) ∧ (¬ r41 = 0 → w_VectorSolverLaw_law_430 L xs Q (w_VectorSolverLaw_law_23 L xs Q n) a4 (xl u42 84 (0 : Int32).toNatClampNeg) 1 u42)))))) ∧ (¬ r43 = r39 → Q (.inl (some (.int 0))) u42))) (fun n u => Q (.inr n) u)) u40 ) (fun n u => Q (.inr n) u)) u38 ) (fun n u => Q (.inr n) u)) σ ) ∧ (((xs a4.toNatClampNeg) &&& 15) = 6 → (vp_in (a4 + 1) L ∧ wp_VectorSolverLaw_suppose_0_84 (xqi (fun r47 u46 => (vp_in (a4 + 1) L ∧ wp_VectorSolverModel_suppose (xqi (fun r49 u48 => wp_VectorSolverModel_thrown (xqi (fun r51 u50 => ((r51 = r47 → ((¬ r47 = 0 → (∀ x52 : Int32, x52 = a4 + 6 → w_VectorSolverLaw_law_23 L xs Q n x52 u50)) ∧ (r47 = 0 → (vp_in 0 1 ∧ ((r49 = 0 → w_VectorSolverLaw_law_493 L xs Q (w_VectorSolverLaw_law_23 L xs Q n) a4 (xl u50 84 (0 : Int32).toNatClampNeg) 0 u50) ∧ (¬ r49 = 0 → w_VectorSolverLaw_law_493 L xs Q (w_VectorSolverLaw_law_23 L xs Q n) a4 (xl u50 84 (0 : Int32).toNatClampNeg) 1 u50)))))) ∧ (¬ r51 = r47 → Q (.inl (some (.int 0))) u50))) (fun n u => Q (.inr n) u)) u48 ) (fun n u => Q (.inr n) u)) u46 (xs (a4 + 1).toNatClampNeg))) (fun n u => Q (.inr n) u)) σ (xs (a4 + 1).toNatClampNeg))) ∧ (((xs a4.toNatClampNeg) &&& 15) = 7 → (vp_in (a4 + 1) L ∧ (vp_in (a4 + 2) L ∧ wp_VectorSolverLaw_value_0_84 (xqi (fun r55 u54 => (vp_in (a4 + 1) L ∧ (vp_in (a4 + 2) L ∧ wp_VectorSolverModel_value (xql (fun r57 u56 => wp_VectorSolverModel_thrown (xqi (fun r59 u58 => ((r59 = r55 → ((¬ r55 = 0 → (∀ x60 : Int32, x60 = a4 + 6 → w_VectorSolverLaw_law_23 L xs Q n x60 u58)) ∧ (r55 = 0 → (vp_in 0 1 ∧ (((lg_cmp (xl u58 84 (0 : Int32).toNatClampNeg) r57) = 0 → (∀ x61 : Int32, x61 = a4 + 6 → w_VectorSolverLaw_law_23 L xs Q n x61 u58)) ∧ (¬ (lg_cmp (xl u58 84 (0 : Int32).toNatClampNeg) r57) = 0 → Q (.inl (some (.int 0))) u58)))))) ∧ (¬ r59 = r55 → Q (.inl (some (.int 0))) u58))) (fun n u => Q (.inr n) u)) u56 ) (fun n u => Q (.inr n) u)) u54 (xs (a4 + 1).toNatClampNeg) (xs (a4 + 2).toNatClampNeg)))) (fun n u => Q (.inr n) u)) σ (xs (a4 + 1).toNatClampNeg) (xs (a4 + 2).toNatClampNeg)))) ∧ (((xs a4.toNatClampNeg) &&& 15) = 8 → (vp_in (a4 + 1) L ∧ wp_VectorSolverLaw_named_0_84 (xqi (fun r63 u62 => (vp_in (a4 + 1) L ∧ wp_VectorSolverModel_named (xql (fun r65 u64 => wp_VectorSolverModel_thrown (xqi (fun r67 u66 => ((r67 = r63 → ((¬ r63 = 0 → (∀ x68 : Int32, x68 = a4 + 6 → w_VectorSolverLaw_law_23 L xs Q n x68 u66)) ∧ (r63 = 0 → (vp_in 0 1 ∧ (((lg_cmp (xl u66 84 (0 : Int32).toNatClampNeg) r65) = 0 → (∀ x69 : Int32, x69 = a4 + 6 → w_VectorSolverLaw_law_23 L xs Q n x69 u66)) ∧ (¬ (lg_cmp (xl u66 84 (0 : Int32).toNatClampNeg) r65) = 0 → Q (.inl (some (.int 0))) u66)))))) ∧ (¬ r67 = r63 → Q (.inl (some (.int 0))) u66))) (fun n u => Q (.inr n) u)) u64 ) (fun n u => Q (.inr n) u)) u62 (xs (a4 + 1).toNatClampNeg))) (fun n u => Q (.inr n) u)) σ (xs (a4 + 1).toNatClampNeg))) ∧ (((xs a4.toNatClampNeg) &&& 15) = 9 → wp_VectorSolver_missed (xqi (fun r71 u70 => wp_VectorSolverModel_missed (xqi (fun r73 u72 => ((r71 = r73 → (∀ x74 : Int32, x74 = a4 + 6 → w_VectorSolverLaw_law_23 L xs Q n x74 u72)) ∧ (¬ r71 = r73 → Q (.inl (some (.int 0))) u72))) (fun n u => Q (.inr n) u)) u70 ) (fun n u => Q (.inr n) u)) σ ) ∧ (((xs a4.toNatClampNeg) &&& 15) = 10 → wp_VectorSolver_refused (xqi (fun r76 u75 => wp_VectorSolverModel_refused (xqi (fun r78 u77 => ((r76 = r78 → (∀ x79 : Int32, x79 = a4 + 6 → w_VectorSolverLaw_law_23 L xs Q n x79 u77)) ∧ (¬ r76 = r78 → Q (.inl (some (.int 0))) u77))) (fun n u => Q (.inr n) u)) u75 ) (fun n u => Q (.inr n) u)) σ ) ∧ (((xs a4.toNatClampNeg) &&& 15) = 11 → (vp_in (a4 + 1) L ∧ (vp_in (a4 + 2) L ∧ wp_VectorSolverLaw_thing_0_84 (xqi (fun r81 u80 => (vp_in (a4 + 1) L ∧ (vp_in (a4 + 2) L ∧ wp_VectorSolverModel_thing (xqi (fun r83 u82 => wp_VectorSolverModel_thrown (xqi (fun r85 u84 => ((r85 = r81 → ((¬ r81 = 0 → (∀ x86 : Int32, x86 = a4 + 6 → w_VectorSolverLaw_law_23 L xs Q n x86 u84)) ∧ (r81 = 0 → (vp_in 0 1 ∧ (((lg_cmp (xl u84 84 (0 : Int32).toNatClampNeg) r83.toInt64) = 0 → (∀ x87 : Int32, x87 = a4 + 6 → w_VectorSolverLaw_law_23 L xs Q n x87 u84)) ∧ (¬ (lg_cmp (xl u84 84 (0 : Int32).toNatClampNeg) r83.toInt64) = 0 → Q (.inl (some (.int 0))) u84)))))) ∧ (¬ r85 = r81 → Q (.inl (some (.int 0))) u84))) (fun n u => Q (.inr n) u)) u82 ) (fun n u => Q (.inr n) u)) u80 (xs (a4 + 1).toNatClampNeg) (xs (a4 + 2).toNatClampNeg)))) (fun n u => Q (.inr n) u)) σ (xs (a4 + 1).toNatClampNeg) (xs (a4 + 2).toNatClampNeg)))) ∧ (((xs a4.toNatClampNeg) &&& 15) = 12 → (vp_in (a4 + 1) L ∧ wp_VectorSolverLaw_count_0_84 (xqi (fun r89 u88 => (vp_in (a4 + 1) L ∧ wp_VectorSolverModel_count (xqi (fun r91 u90 => wp_VectorSolverModel_thrown (xqi (fun r93 u92 => ((r93 = r89 → ((¬ r89 = 0 → (∀ x94 : Int32, x94 = a4 + 6 → w_VectorSolverLaw_law_23 L xs Q n x94 u92)) ∧ (r89 = 0 → (vp_in 0 1 ∧ (((lg_cmp (xl u92 84 (0 : Int32).toNatClampNeg) r91.toInt64) = 0 → (∀ x95 : Int32, x95 = a4 + 6 → w_VectorSolverLaw_law_23 L xs Q n x95 u92)) ∧ (¬ (lg_cmp (xl u92 84 (0 : Int32).toNatClampNeg) r91.toInt64) = 0 → Q (.inl (some (.int 0))) u92)))))) ∧ (¬ r93 = r89 → Q (.inl (some (.int 0))) u92))) (fun n u => Q (.inr n) u)) u90 ) (fun n u => Q (.inr n) u)) u88 (xs (a4 + 1).toNatClampNeg))) (fun n u => Q (.inr n) u)) σ (xs (a4 + 1).toNatClampNeg))) ∧ (¬ ((xs a4.toNatClampNeg) &&& 15) = 0 ∧ ¬ ((xs a4.toNatClampNeg) &&& 15) = 1 ∧ ¬ ((xs a4.toNatClampNeg) &&& 15) = 2 ∧ ¬ ((xs a4.toNatClampNeg) &&& 15) = 3 ∧ ¬ ((xs a4.toNatClampNeg) &&& 15) = 4 ∧ ¬ ((xs a4.toNatClampNeg) &&& 15) = 5 ∧ ¬ ((xs a4.toNatClampNeg) &&& 15) = 6 ∧ ¬ ((xs a4.toNatClampNeg) &&& 15) = 7 ∧ ¬ ((xs a4.toNatClampNeg) &&& 15) = 8 ∧ ¬ ((xs a4.toNatClampNeg) &&& 15) = 9 ∧ ¬ ((xs a4.toNatClampNeg) &&& 15) = 10 ∧ ¬ ((xs a4.toNatClampNeg) &&& 15) = 11 ∧ ¬ ((xs a4.toNatClampNeg) &&& 15) = 12 → (∀ x96 : Int32, x96 = a4 + 6 → w_VectorSolverLaw_law_23 L xs Q n x96 σ))))))
def wp_law (L : Nat) (xs : Nat → Int32) (Q : xO → xS → Prop) (σ : xS) : Prop :=
  ∃ m, w_VectorSolverLaw_law_23 L xs Q m 0 σ
set_option maxRecDepth 20000 in
theorem sw_VectorSolverLaw_law_379 {γ : xG1} {d b0 : Nat} {Q : xO → xS → Prop} {K23 : Int32 → xS → Prop} (hK23 : ∀ a4 σ, K23 a4 σ → xJ (SHP, γ) Y_VectorSolverLaw_law (d + 269) b0 23 [(0, .ref 920), (1, .ref 0), (2, .ref 50), (3, .ref 84), (4, .int a4)] [] σ Q) {a4 : Int32} {t0 : Int64} {t1 : Int64} {σ : xS} (h : w_VectorSolverLaw_law_379 (xsL (SHP, γ)) (xsx (SHP, γ)) Q K23 a4 t0 t1 σ) : xJ (SHP, γ) Y_VectorSolverLaw_law (d + 269) b0 379 [(0, .ref 920), (1, .ref 0), (2, .ref 50), (3, .ref 84), (4, .int a4)] [.long t1, .long t0] σ Q := by
  refine xJ.lcmp (o_VectorSolverLaw_law 200 rfl) ?_
  refine xJ.if_eq (tgt := 385) (o_VectorSolverLaw_law 201 rfl) (by decide) (fun z => ?_) (fun z => ?_)
  · replace h := h.1 z
    refine xJ.goto (tgt := 774) (o_VectorSolverLaw_law 204 rfl) (by decide) ?_
    refine xJ.iincC (w := 6) (o_VectorSolverLaw_law 443 rfl) rfl (by decide) (by decide) ?_
    replace h := h _ rfl
    refine xJ.goto (tgt := 23) (o_VectorSolverLaw_law 444 rfl) (by decide) ?_
    exact xJ.lvs (by exact ⟨rfl, rfl, rfl, rfl, rfl, trivial⟩) (hK23 _ _ h)
  · replace h := h.2 z
    refine xJ.iconst (v := 0) (o_VectorSolverLaw_law 202 rfl) (by decide) ?_
    exact xJ.zreturn (o_VectorSolverLaw_law 203 rfl) rfl (Or.inl rfl) h
set_option maxRecDepth 20000 in
theorem sw_VectorSolverLaw_law_430 {γ : xG1} {d b0 : Nat} {Q : xO → xS → Prop} {K23 : Int32 → xS → Prop} (hK23 : ∀ a4 σ, K23 a4 σ → xJ (SHP, γ) Y_VectorSolverLaw_law (d + 269) b0 23 [(0, .ref 920), (1, .ref 0), (2, .ref 50), (3, .ref 84), (4, .int a4)] [] σ Q) {a4 : Int32} {t0 : Int64} {t1 : Int64} {σ : xS} (h : w_VectorSolverLaw_law_430 (xsL (SHP, γ)) (xsx (SHP, γ)) Q K23 a4 t0 t1 σ) : xJ (SHP, γ) Y_VectorSolverLaw_law (d + 269) b0 430 [(0, .ref 920), (1, .ref 0), (2, .ref 50), (3, .ref 84), (4, .int a4)] [.long t1, .long t0] σ Q := by
  refine xJ.lcmp (o_VectorSolverLaw_law 228 rfl) ?_
  refine xJ.if_eq (tgt := 436) (o_VectorSolverLaw_law 229 rfl) (by decide) (fun z => ?_) (fun z => ?_)
  · replace h := h.1 z
    refine xJ.goto (tgt := 774) (o_VectorSolverLaw_law 232 rfl) (by decide) ?_
    refine xJ.iincC (w := 6) (o_VectorSolverLaw_law 443 rfl) rfl (by decide) (by decide) ?_
    replace h := h _ rfl
    refine xJ.goto (tgt := 23) (o_VectorSolverLaw_law 444 rfl) (by decide) ?_
    exact xJ.lvs (by exact ⟨rfl, rfl, rfl, rfl, rfl, trivial⟩) (hK23 _ _ h)
  · replace h := h.2 z
    refine xJ.iconst (v := 0) (o_VectorSolverLaw_law 230 rfl) (by decide) ?_
    exact xJ.zreturn (o_VectorSolverLaw_law 231 rfl) rfl (Or.inl rfl) h
set_option maxRecDepth 20000 in
theorem sw_VectorSolverLaw_law_493 {γ : xG1} {d b0 : Nat} {Q : xO → xS → Prop} {K23 : Int32 → xS → Prop} (hK23 : ∀ a4 σ, K23 a4 σ → xJ (SHP, γ) Y_VectorSolverLaw_law (d + 269) b0 23 [(0, .ref 920), (1, .ref 0), (2, .ref 50), (3, .ref 84), (4, .int a4)] [] σ Q) {a4 : Int32} {t0 : Int64} {t1 : Int64} {σ : xS} (h : w_VectorSolverLaw_law_493 (xsL (SHP, γ)) (xsx (SHP, γ)) Q K23 a4 t0 t1 σ) : xJ (SHP, γ) Y_VectorSolverLaw_law (d + 269) b0 493 [(0, .ref 920), (1, .ref 0), (2, .ref 50), (3, .ref 84), (4, .int a4)] [.long t1, .long t0] σ Q := by
  refine xJ.lcmp (o_VectorSolverLaw_law 266 rfl) ?_
  refine xJ.if_eq (tgt := 499) (o_VectorSolverLaw_law 267 rfl) (by decide) (fun z => ?_) (fun z => ?_)
  · replace h := h.1 z
    refine xJ.goto (tgt := 774) (o_VectorSolverLaw_law 270 rfl) (by decide) ?_
    refine xJ.iincC (w := 6) (o_VectorSolverLaw_law 443 rfl) rfl (by decide) (by decide) ?_
    replace h := h _ rfl
    refine xJ.goto (tgt := 23) (o_VectorSolverLaw_law 444 rfl) (by decide) ?_
    exact xJ.lvs (by exact ⟨rfl, rfl, rfl, rfl, rfl, trivial⟩) (hK23 _ _ h)
  · replace h := h.2 z
    refine xJ.iconst (v := 0) (o_VectorSolverLaw_law 268 rfl) (by decide) ?_
    exact xJ.zreturn (o_VectorSolverLaw_law 269 rfl) rfl (Or.inl rfl) h
set_option maxRecDepth 20000 in
theorem sw_VectorSolverLaw_law_23 {γ : xG1} {d b0 : Nat} {Q : xO → xS → Prop} : ∀ (n : Nat) (a4 : Int32) (σ : xS), w_VectorSolverLaw_law_23 (xsL (SHP, γ)) (xsx (SHP, γ)) Q n a4 σ → xJ (SHP, γ) Y_VectorSolverLaw_law (d + 269) b0 23 [(0, .ref 920), (1, .ref 0), (2, .ref 50), (3, .ref 84), (4, .int a4)] [] σ Q := by
  intro n
  induction n with
  | zero => intro a4 σ h; exact h.elim
  | succ n ih =>
    intro a4 σ h
    refine xJ.iload (o_VectorSolverLaw_law 13 rfl) rfl ?_
    refine xJ.aload_n (o_VectorSolverLaw_law 14 rfl) rfl ?_
    refine xJ.slen (o_VectorSolverLaw_law 15 rfl) ?_
    refine xJ.bipush (v := 6) (o_VectorSolverLaw_law 16 rfl) (by decide) ?_
    refine xJ.isub (o_VectorSolverLaw_law 17 rfl) ?_
    refine xJ.icmp_gt (tgt := 780) (o_VectorSolverLaw_law 18 rfl) (by decide) (fun z => ?_) (fun z => ?_)
    · replace h := h.1 z
      refine xJ.iconst (v := 1) (o_VectorSolverLaw_law 445 rfl) (by decide) ?_
      exact xJ.zreturn (o_VectorSolverLaw_law 446 rfl) rfl (Or.inr rfl) h
    · replace h := h.2 z
      refine xJ.aload_n (o_VectorSolverLaw_law 19 rfl) rfl ?_
      refine xJ.iload (o_VectorSolverLaw_law 20 rfl) rfl ?_
      refine xJ.sld (o_VectorSolverLaw_law 21 rfl) h.1 ?_
      replace h := h.2
      refine xJ.bipush (v := 15) (o_VectorSolverLaw_law 22 rfl) (by decide) ?_
      refine xJ.iand (o_VectorSolverLaw_law 23 rfl) ?_
      refine xJ.tsw (o_VectorSolverLaw_law 24 rfl) (by decide) (sc_VectorSolverLaw_law_40 (fun z => ?_) (fun z => ?_) (fun z => ?_) (fun z => ?_) (fun z => ?_) (fun z => ?_) (fun z => ?_) (fun z => ?_) (fun z => ?_) (fun z => ?_) (fun z => ?_) (fun z => ?_) (fun z => ?_) (fun z => ?_))
      · replace h := h.1 z
        refine xJ.aload_n (o_VectorSolverLaw_law 25 rfl) rfl ?_
        refine xJ.aload_n (o_VectorSolverLaw_law 26 rfl) rfl ?_
        refine xJ.iload (o_VectorSolverLaw_law 27 rfl) rfl ?_
        refine xJ.iconst (v := 1) (o_VectorSolverLaw_law 28 rfl) (by decide) ?_
        refine xJ.iadd (o_VectorSolverLaw_law 29 rfl) ?_
        refine xJ.sld (o_VectorSolverLaw_law 30 rfl) h.1 ?_
        replace h := h.2
        refine xJ.aload_n (o_VectorSolverLaw_law 31 rfl) rfl ?_
        refine xJ.iload (o_VectorSolverLaw_law 32 rfl) rfl ?_
        refine xJ.iconst (v := 2) (o_VectorSolverLaw_law 33 rfl) (by decide) ?_
        refine xJ.iadd (o_VectorSolverLaw_law 34 rfl) ?_
        refine xJ.sld (o_VectorSolverLaw_law 35 rfl) h.1 ?_
        replace h := h.2
        refine xJ.aload_n (o_VectorSolverLaw_law 36 rfl) rfl ?_
        refine xJ.iload (o_VectorSolverLaw_law 37 rfl) rfl ?_
        refine xJ.iconst (v := 3) (o_VectorSolverLaw_law 38 rfl) (by decide) ?_
        refine xJ.iadd (o_VectorSolverLaw_law 39 rfl) ?_
        refine xJ.sld (o_VectorSolverLaw_law 40 rfl) h.1 ?_
        replace h := h.2
        refine xJ.aload_n (o_VectorSolverLaw_law 41 rfl) rfl ?_
        refine xJ.iload (o_VectorSolverLaw_law 42 rfl) rfl ?_
        refine xJ.iconst (v := 4) (o_VectorSolverLaw_law 43 rfl) (by decide) ?_
        refine xJ.iadd (o_VectorSolverLaw_law 44 rfl) ?_
        refine xJ.sld (o_VectorSolverLaw_law 45 rfl) h.1 ?_
        replace h := h.2
        refine xJ.aload_n (o_VectorSolverLaw_law 46 rfl) rfl ?_
        refine xJ.iload (o_VectorSolverLaw_law 47 rfl) rfl ?_
        refine xJ.iconst (v := 5) (o_VectorSolverLaw_law 48 rfl) (by decide) ?_
        refine xJ.iadd (o_VectorSolverLaw_law 49 rfl) ?_
        refine xJ.sld (o_VectorSolverLaw_law 50 rfl) h.1 ?_
        replace h := h.2
        refine xJ.aload_n (o_VectorSolverLaw_law 51 rfl) rfl ?_
        refine xJ.callS (Y' := Y_VectorSolverLaw_feed) (o_VectorSolverLaw_law 52 rfl) m_VectorSolverLaw_54 y_VectorSolverLaw_feed st_VectorSolverLaw_feed (s_VectorSolverLaw_feed_0_84 h) rfl rfl (Nat.le_of_ble_eq_true rfl) (fun _ hx => by cases hx) (fun v u q => ?_) (fun n u q => q)
        obtain ⟨r, rfl, h⟩ := xqi_get q
        refine xJ.istore (o_VectorSolverLaw_law 53 rfl) (by decide) ?_
        refine xJ.aload_n (o_VectorSolverLaw_law 54 rfl) rfl ?_
        refine xJ.aload_n (o_VectorSolverLaw_law 55 rfl) rfl ?_
        refine xJ.iload (o_VectorSolverLaw_law 56 rfl) rfl ?_
        refine xJ.iconst (v := 1) (o_VectorSolverLaw_law 57 rfl) (by decide) ?_
        refine xJ.iadd (o_VectorSolverLaw_law 58 rfl) ?_
        refine xJ.sld (o_VectorSolverLaw_law 59 rfl) h.1 ?_
        replace h := h.2
        refine xJ.aload_n (o_VectorSolverLaw_law 60 rfl) rfl ?_
        refine xJ.iload (o_VectorSolverLaw_law 61 rfl) rfl ?_
        refine xJ.iconst (v := 2) (o_VectorSolverLaw_law 62 rfl) (by decide) ?_
        refine xJ.iadd (o_VectorSolverLaw_law 63 rfl) ?_
        refine xJ.sld (o_VectorSolverLaw_law 64 rfl) h.1 ?_
        replace h := h.2
        refine xJ.aload_n (o_VectorSolverLaw_law 65 rfl) rfl ?_
        refine xJ.iload (o_VectorSolverLaw_law 66 rfl) rfl ?_
        refine xJ.iconst (v := 3) (o_VectorSolverLaw_law 67 rfl) (by decide) ?_
        refine xJ.iadd (o_VectorSolverLaw_law 68 rfl) ?_
        refine xJ.sld (o_VectorSolverLaw_law 69 rfl) h.1 ?_
        replace h := h.2
        refine xJ.aload_n (o_VectorSolverLaw_law 70 rfl) rfl ?_
        refine xJ.iload (o_VectorSolverLaw_law 71 rfl) rfl ?_
        refine xJ.iconst (v := 4) (o_VectorSolverLaw_law 72 rfl) (by decide) ?_
        refine xJ.iadd (o_VectorSolverLaw_law 73 rfl) ?_
        refine xJ.sld (o_VectorSolverLaw_law 74 rfl) h.1 ?_
        replace h := h.2
        refine xJ.aload_n (o_VectorSolverLaw_law 75 rfl) rfl ?_
        refine xJ.iload (o_VectorSolverLaw_law 76 rfl) rfl ?_
        refine xJ.iconst (v := 5) (o_VectorSolverLaw_law 77 rfl) (by decide) ?_
        refine xJ.iadd (o_VectorSolverLaw_law 78 rfl) ?_
        refine xJ.sld (o_VectorSolverLaw_law 79 rfl) h.1 ?_
        replace h := h.2
        refine xJ.callV (Y' := Y_VectorSolverModel_feed) (o_VectorSolverLaw_law 80 rfl) m_VectorSolverLaw_59 y_VectorSolverModel_feed im_VectorSolverModel_feed se_VectorSolverModel_feed rfl rfl (s_VectorSolverModel_feed h) rfl rfl (Nat.le_of_ble_eq_true rfl) (fun _ hx => by cases hx) (fun v u q => ?_) (fun n u q => q)
        obtain ⟨r, rfl, h⟩ := xqi_get q
        refine xJ.istore (o_VectorSolverLaw_law 81 rfl) (by decide) ?_
        refine xJ.aload_n (o_VectorSolverLaw_law 82 rfl) rfl ?_
        refine xJ.callV (Y' := Y_VectorSolverModel_thrown) (o_VectorSolverLaw_law 83 rfl) m_VectorSolverLaw_60 y_VectorSolverModel_thrown im_VectorSolverModel_thrown se_VectorSolverModel_thrown rfl rfl (s_VectorSolverModel_thrown h) rfl rfl (Nat.le_of_ble_eq_true rfl) (fun _ hx => by cases hx) (fun v u q => ?_) (fun n u q => q)
        obtain ⟨r, rfl, h⟩ := xqi_get q
        refine xJ.iload (o_VectorSolverLaw_law 84 rfl) rfl ?_
        refine xJ.icmp_eq (tgt := 192) (o_VectorSolverLaw_law 85 rfl) (by decide) (fun z => ?_) (fun z => ?_)
        · replace h := h.1 z
          refine xJ.iload (o_VectorSolverLaw_law 88 rfl) rfl ?_
          refine xJ.if_ne (tgt := 209) (o_VectorSolverLaw_law 89 rfl) (by decide) (fun z => ?_) (fun z => ?_)
          · replace h := h.1 z
            refine xJ.goto (tgt := 774) (o_VectorSolverLaw_law 99 rfl) (by decide) ?_
            refine xJ.iincC (w := 6) (o_VectorSolverLaw_law 443 rfl) rfl (by decide) (by decide) ?_
            replace h := h _ rfl
            refine xJ.goto (tgt := 23) (o_VectorSolverLaw_law 444 rfl) (by decide) ?_
            exact xJ.lvs (by exact ⟨rfl, rfl, rfl, rfl, rfl, trivial⟩) (ih _ _ h)
          · replace h := h.2 z
            refine xJ.aload_n (o_VectorSolverLaw_law 90 rfl) rfl ?_
            refine xJ.iconst (v := 0) (o_VectorSolverLaw_law 91 rfl) (by decide) ?_
            refine xJ.laload (o_VectorSolverLaw_law 92 rfl) rfl h.1 ?_
            replace h := h.2
            refine xJ.iload (o_VectorSolverLaw_law 93 rfl) rfl ?_
            refine xJ.i2l (o_VectorSolverLaw_law 94 rfl) rfl ?_
            refine xJ.lcmp (o_VectorSolverLaw_law 95 rfl) ?_
            refine xJ.if_eq (tgt := 209) (o_VectorSolverLaw_law 96 rfl) (by decide) (fun z => ?_) (fun z => ?_)
            · replace h := h.1 z
              refine xJ.goto (tgt := 774) (o_VectorSolverLaw_law 99 rfl) (by decide) ?_
              refine xJ.iincC (w := 6) (o_VectorSolverLaw_law 443 rfl) rfl (by decide) (by decide) ?_
              replace h := h _ rfl
              refine xJ.goto (tgt := 23) (o_VectorSolverLaw_law 444 rfl) (by decide) ?_
              exact xJ.lvs (by exact ⟨rfl, rfl, rfl, rfl, rfl, trivial⟩) (ih _ _ h)
            · replace h := h.2 z
              refine xJ.iconst (v := 0) (o_VectorSolverLaw_law 97 rfl) (by decide) ?_
              exact xJ.zreturn (o_VectorSolverLaw_law 98 rfl) rfl (Or.inl rfl) h
        · replace h := h.2 z
          refine xJ.iconst (v := 0) (o_VectorSolverLaw_law 86 rfl) (by decide) ?_
          exact xJ.zreturn (o_VectorSolverLaw_law 87 rfl) rfl (Or.inl rfl) h
      · replace h := h.2.1 z
        refine xJ.aload_n (o_VectorSolverLaw_law 100 rfl) rfl ?_
        refine xJ.aload_n (o_VectorSolverLaw_law 101 rfl) rfl ?_
        refine xJ.iload (o_VectorSolverLaw_law 102 rfl) rfl ?_
        refine xJ.iconst (v := 1) (o_VectorSolverLaw_law 103 rfl) (by decide) ?_
        refine xJ.iadd (o_VectorSolverLaw_law 104 rfl) ?_
        refine xJ.sld (o_VectorSolverLaw_law 105 rfl) h.1 ?_
        replace h := h.2
        refine xJ.aload_n (o_VectorSolverLaw_law 106 rfl) rfl ?_
        refine xJ.callS (Y' := Y_VectorSolverLaw_trim) (o_VectorSolverLaw_law 107 rfl) m_VectorSolverLaw_64 y_VectorSolverLaw_trim st_VectorSolverLaw_trim (s_VectorSolverLaw_trim_0_84 h) rfl rfl (Nat.le_of_ble_eq_true rfl) (fun _ hx => by cases hx) (fun v u q => ?_) (fun n u q => q)
        obtain ⟨r, rfl, h⟩ := xqi_get q
        refine xJ.istore (o_VectorSolverLaw_law 108 rfl) (by decide) ?_
        refine xJ.aload_n (o_VectorSolverLaw_law 109 rfl) rfl ?_
        refine xJ.aload_n (o_VectorSolverLaw_law 110 rfl) rfl ?_
        refine xJ.iload (o_VectorSolverLaw_law 111 rfl) rfl ?_
        refine xJ.iconst (v := 1) (o_VectorSolverLaw_law 112 rfl) (by decide) ?_
        refine xJ.iadd (o_VectorSolverLaw_law 113 rfl) ?_
        refine xJ.sld (o_VectorSolverLaw_law 114 rfl) h.1 ?_
        replace h := h.2
        refine xJ.callV (Y' := Y_VectorSolverModel_trim) (o_VectorSolverLaw_law 115 rfl) m_VectorSolverLaw_67 y_VectorSolverModel_trim im_VectorSolverModel_trim se_VectorSolverModel_trim rfl rfl (s_VectorSolverModel_trim h) rfl rfl (Nat.le_of_ble_eq_true rfl) (fun _ hx => by cases hx) (fun v u q => ?_) (fun n u q => q)
        obtain ⟨r, rfl, h⟩ := xqi_get q
        refine xJ.istore (o_VectorSolverLaw_law 116 rfl) (by decide) ?_
        refine xJ.aload_n (o_VectorSolverLaw_law 117 rfl) rfl ?_
        refine xJ.callV (Y' := Y_VectorSolverModel_thrown) (o_VectorSolverLaw_law 118 rfl) m_VectorSolverLaw_60 y_VectorSolverModel_thrown im_VectorSolverModel_thrown se_VectorSolverModel_thrown rfl rfl (s_VectorSolverModel_thrown h) rfl rfl (Nat.le_of_ble_eq_true rfl) (fun _ hx => by cases hx) (fun v u q => ?_) (fun n u q => q)
        obtain ⟨r, rfl, h⟩ := xqi_get q
        refine xJ.iload (o_VectorSolverLaw_law 119 rfl) rfl ?_
        refine xJ.icmp_eq (tgt := 248) (o_VectorSolverLaw_law 120 rfl) (by decide) (fun z => ?_) (fun z => ?_)
        · replace h := h.1 z
          refine xJ.iload (o_VectorSolverLaw_law 123 rfl) rfl ?_
          refine xJ.if_ne (tgt := 265) (o_VectorSolverLaw_law 124 rfl) (by decide) (fun z => ?_) (fun z => ?_)
          · replace h := h.1 z
            refine xJ.goto (tgt := 774) (o_VectorSolverLaw_law 134 rfl) (by decide) ?_
            refine xJ.iincC (w := 6) (o_VectorSolverLaw_law 443 rfl) rfl (by decide) (by decide) ?_
            replace h := h _ rfl
            refine xJ.goto (tgt := 23) (o_VectorSolverLaw_law 444 rfl) (by decide) ?_
            exact xJ.lvs (by exact ⟨rfl, rfl, rfl, rfl, rfl, trivial⟩) (ih _ _ h)
          · replace h := h.2 z
            refine xJ.aload_n (o_VectorSolverLaw_law 125 rfl) rfl ?_
            refine xJ.iconst (v := 0) (o_VectorSolverLaw_law 126 rfl) (by decide) ?_
            refine xJ.laload (o_VectorSolverLaw_law 127 rfl) rfl h.1 ?_
            replace h := h.2
            refine xJ.iload (o_VectorSolverLaw_law 128 rfl) rfl ?_
            refine xJ.i2l (o_VectorSolverLaw_law 129 rfl) rfl ?_
            refine xJ.lcmp (o_VectorSolverLaw_law 130 rfl) ?_
            refine xJ.if_eq (tgt := 265) (o_VectorSolverLaw_law 131 rfl) (by decide) (fun z => ?_) (fun z => ?_)
            · replace h := h.1 z
              refine xJ.goto (tgt := 774) (o_VectorSolverLaw_law 134 rfl) (by decide) ?_
              refine xJ.iincC (w := 6) (o_VectorSolverLaw_law 443 rfl) rfl (by decide) (by decide) ?_
              replace h := h _ rfl
              refine xJ.goto (tgt := 23) (o_VectorSolverLaw_law 444 rfl) (by decide) ?_
              exact xJ.lvs (by exact ⟨rfl, rfl, rfl, rfl, rfl, trivial⟩) (ih _ _ h)
            · replace h := h.2 z
              refine xJ.iconst (v := 0) (o_VectorSolverLaw_law 132 rfl) (by decide) ?_
              exact xJ.zreturn (o_VectorSolverLaw_law 133 rfl) rfl (Or.inl rfl) h
        · replace h := h.2 z
          refine xJ.iconst (v := 0) (o_VectorSolverLaw_law 121 rfl) (by decide) ?_
          exact xJ.zreturn (o_VectorSolverLaw_law 122 rfl) rfl (Or.inl rfl) h
      · replace h := h.2.2.1 z
        refine xJ.aload_n (o_VectorSolverLaw_law 135 rfl) rfl ?_
        refine xJ.callV (Y' := Y_VectorSolver_read) (o_VectorSolverLaw_law 136 rfl) m_VectorSolverLaw_68 y_VectorSolver_read im_VectorSolver_read se_VectorSolver_read rfl rfl (s_VectorSolver_read h) rfl rfl (Nat.le_of_ble_eq_true rfl) (fun _ hx => by cases hx) (fun v u q => ?_) (fun n u q => q)
        obtain ⟨r, rfl, h⟩ := xqi_get q
        refine xJ.aload_n (o_VectorSolverLaw_law 137 rfl) rfl ?_
        refine xJ.callV (Y' := Y_VectorSolverModel_read) (o_VectorSolverLaw_law 138 rfl) m_VectorSolverLaw_71 y_VectorSolverModel_read im_VectorSolverModel_read se_VectorSolverModel_read rfl rfl (s_VectorSolverModel_read h) rfl rfl (Nat.le_of_ble_eq_true rfl) (fun _ hx => by cases hx) (fun v u q => ?_) (fun n u q => q)
        obtain ⟨r, rfl, h⟩ := xqi_get q
        refine xJ.icmp_eq (tgt := 774) (o_VectorSolverLaw_law 139 rfl) (by decide) (fun z => ?_) (fun z => ?_)
        · replace h := h.1 z
          refine xJ.iincC (w := 6) (o_VectorSolverLaw_law 443 rfl) rfl (by decide) (by decide) ?_
          replace h := h _ rfl
          refine xJ.goto (tgt := 23) (o_VectorSolverLaw_law 444 rfl) (by decide) ?_
          exact xJ.lvs (by exact ⟨rfl, rfl, rfl, rfl, rfl, trivial⟩) (ih _ _ h)
        · replace h := h.2 z
          refine xJ.iconst (v := 0) (o_VectorSolverLaw_law 140 rfl) (by decide) ?_
          exact xJ.zreturn (o_VectorSolverLaw_law 141 rfl) rfl (Or.inl rfl) h
      · replace h := h.2.2.2.1 z
        refine xJ.aload_n (o_VectorSolverLaw_law 142 rfl) rfl ?_
        refine xJ.aload_n (o_VectorSolverLaw_law 143 rfl) rfl ?_
        refine xJ.iload (o_VectorSolverLaw_law 144 rfl) rfl ?_
        refine xJ.iconst (v := 1) (o_VectorSolverLaw_law 145 rfl) (by decide) ?_
        refine xJ.iadd (o_VectorSolverLaw_law 146 rfl) ?_
        refine xJ.sld (o_VectorSolverLaw_law 147 rfl) h.1 ?_
        replace h := h.2
        refine xJ.aload_n (o_VectorSolverLaw_law 148 rfl) rfl ?_
        refine xJ.callS (Y' := Y_VectorSolverLaw_fault) (o_VectorSolverLaw_law 149 rfl) m_VectorSolverLaw_72 y_VectorSolverLaw_fault st_VectorSolverLaw_fault (s_VectorSolverLaw_fault_0_84 h) rfl rfl (Nat.le_of_ble_eq_true rfl) (fun _ hx => by cases hx) (fun v u q => ?_) (fun n u q => q)
        obtain ⟨r, rfl, h⟩ := xqi_get q
        refine xJ.istore (o_VectorSolverLaw_law 150 rfl) (by decide) ?_
        refine xJ.aload_n (o_VectorSolverLaw_law 151 rfl) rfl ?_
        refine xJ.aload_n (o_VectorSolverLaw_law 152 rfl) rfl ?_
        refine xJ.iload (o_VectorSolverLaw_law 153 rfl) rfl ?_
        refine xJ.iconst (v := 1) (o_VectorSolverLaw_law 154 rfl) (by decide) ?_
        refine xJ.iadd (o_VectorSolverLaw_law 155 rfl) ?_
        refine xJ.sld (o_VectorSolverLaw_law 156 rfl) h.1 ?_
        replace h := h.2
        refine xJ.callV (Y' := Y_VectorSolverModel_fault) (o_VectorSolverLaw_law 157 rfl) m_VectorSolverLaw_74 y_VectorSolverModel_fault im_VectorSolverModel_fault se_VectorSolverModel_fault rfl rfl (s_VectorSolverModel_fault h) rfl rfl (Nat.le_of_ble_eq_true rfl) (fun _ hx => by cases hx) (fun v u q => ?_) (fun n u q => q)
        obtain ⟨r, rfl, h⟩ := xqi_get q
        refine xJ.istore (o_VectorSolverLaw_law 158 rfl) (by decide) ?_
        refine xJ.aload_n (o_VectorSolverLaw_law 159 rfl) rfl ?_
        refine xJ.callV (Y' := Y_VectorSolverModel_thrown) (o_VectorSolverLaw_law 160 rfl) m_VectorSolverLaw_60 y_VectorSolverModel_thrown im_VectorSolverModel_thrown se_VectorSolverModel_thrown rfl rfl (s_VectorSolverModel_thrown h) rfl rfl (Nat.le_of_ble_eq_true rfl) (fun _ hx => by cases hx) (fun v u q => ?_) (fun n u q => q)
        obtain ⟨r, rfl, h⟩ := xqi_get q
        refine xJ.iload (o_VectorSolverLaw_law 161 rfl) rfl ?_
        refine xJ.icmp_eq (tgt := 317) (o_VectorSolverLaw_law 162 rfl) (by decide) (fun z => ?_) (fun z => ?_)
        · replace h := h.1 z
          refine xJ.iload (o_VectorSolverLaw_law 165 rfl) rfl ?_
          refine xJ.if_ne (tgt := 334) (o_VectorSolverLaw_law 166 rfl) (by decide) (fun z => ?_) (fun z => ?_)
          · replace h := h.1 z
            refine xJ.goto (tgt := 774) (o_VectorSolverLaw_law 176 rfl) (by decide) ?_
            refine xJ.iincC (w := 6) (o_VectorSolverLaw_law 443 rfl) rfl (by decide) (by decide) ?_
            replace h := h _ rfl
            refine xJ.goto (tgt := 23) (o_VectorSolverLaw_law 444 rfl) (by decide) ?_
            exact xJ.lvs (by exact ⟨rfl, rfl, rfl, rfl, rfl, trivial⟩) (ih _ _ h)
          · replace h := h.2 z
            refine xJ.aload_n (o_VectorSolverLaw_law 167 rfl) rfl ?_
            refine xJ.iconst (v := 0) (o_VectorSolverLaw_law 168 rfl) (by decide) ?_
            refine xJ.laload (o_VectorSolverLaw_law 169 rfl) rfl h.1 ?_
            replace h := h.2
            refine xJ.iload (o_VectorSolverLaw_law 170 rfl) rfl ?_
            refine xJ.i2l (o_VectorSolverLaw_law 171 rfl) rfl ?_
            refine xJ.lcmp (o_VectorSolverLaw_law 172 rfl) ?_
            refine xJ.if_eq (tgt := 334) (o_VectorSolverLaw_law 173 rfl) (by decide) (fun z => ?_) (fun z => ?_)
            · replace h := h.1 z
              refine xJ.goto (tgt := 774) (o_VectorSolverLaw_law 176 rfl) (by decide) ?_
              refine xJ.iincC (w := 6) (o_VectorSolverLaw_law 443 rfl) rfl (by decide) (by decide) ?_
              replace h := h _ rfl
              refine xJ.goto (tgt := 23) (o_VectorSolverLaw_law 444 rfl) (by decide) ?_
              exact xJ.lvs (by exact ⟨rfl, rfl, rfl, rfl, rfl, trivial⟩) (ih _ _ h)
            · replace h := h.2 z
              refine xJ.iconst (v := 0) (o_VectorSolverLaw_law 174 rfl) (by decide) ?_
              exact xJ.zreturn (o_VectorSolverLaw_law 175 rfl) rfl (Or.inl rfl) h
        · replace h := h.2 z
          refine xJ.iconst (v := 0) (o_VectorSolverLaw_law 163 rfl) (by decide) ?_
          exact xJ.zreturn (o_VectorSolverLaw_law 164 rfl) rfl (Or.inl rfl) h
      · replace h := h.2.2.2.2.1 z
        refine xJ.aload_n (o_VectorSolverLaw_law 177 rfl) rfl ?_
        refine xJ.aload_n (o_VectorSolverLaw_law 178 rfl) rfl ?_
        refine xJ.callS (Y' := Y_VectorSolverLaw_check) (o_VectorSolverLaw_law 179 rfl) m_VectorSolverLaw_75 y_VectorSolverLaw_check st_VectorSolverLaw_check (s_VectorSolverLaw_check_0_84 h) rfl rfl (Nat.le_of_ble_eq_true rfl) (fun _ hx => by cases hx) (fun v u q => ?_) (fun n u q => q)
        obtain ⟨r, rfl, h⟩ := xqi_get q
        refine xJ.istore (o_VectorSolverLaw_law 180 rfl) (by decide) ?_
        refine xJ.aload_n (o_VectorSolverLaw_law 181 rfl) rfl ?_
        refine xJ.callV (Y' := Y_VectorSolverModel_check) (o_VectorSolverLaw_law 182 rfl) m_VectorSolverLaw_78 y_VectorSolverModel_check im_VectorSolverModel_check se_VectorSolverModel_check rfl rfl (s_VectorSolverModel_check h) rfl rfl (Nat.le_of_ble_eq_true rfl) (fun _ hx => by cases hx) (fun v u q => ?_) (fun n u q => q)
        obtain ⟨r, rfl, h⟩ := xqi_get q
        refine xJ.istore (o_VectorSolverLaw_law 183 rfl) (by decide) ?_
        refine xJ.aload_n (o_VectorSolverLaw_law 184 rfl) rfl ?_
        refine xJ.callV (Y' := Y_VectorSolverModel_thrown) (o_VectorSolverLaw_law 185 rfl) m_VectorSolverLaw_60 y_VectorSolverModel_thrown im_VectorSolverModel_thrown se_VectorSolverModel_thrown rfl rfl (s_VectorSolverModel_thrown h) rfl rfl (Nat.le_of_ble_eq_true rfl) (fun _ hx => by cases hx) (fun v u q => ?_) (fun n u q => q)
        obtain ⟨r, rfl, h⟩ := xqi_get q
        refine xJ.iload (o_VectorSolverLaw_law 186 rfl) rfl ?_
        refine xJ.icmp_eq (tgt := 361) (o_VectorSolverLaw_law 187 rfl) (by decide) (fun z => ?_) (fun z => ?_)
        · replace h := h.1 z
          refine xJ.iload (o_VectorSolverLaw_law 190 rfl) rfl ?_
          refine xJ.if_ne (tgt := 385) (o_VectorSolverLaw_law 191 rfl) (by decide) (fun z => ?_) (fun z => ?_)
          · replace h := h.1 z
            refine xJ.goto (tgt := 774) (o_VectorSolverLaw_law 204 rfl) (by decide) ?_
            refine xJ.iincC (w := 6) (o_VectorSolverLaw_law 443 rfl) rfl (by decide) (by decide) ?_
            replace h := h _ rfl
            refine xJ.goto (tgt := 23) (o_VectorSolverLaw_law 444 rfl) (by decide) ?_
            exact xJ.lvs (by exact ⟨rfl, rfl, rfl, rfl, rfl, trivial⟩) (ih _ _ h)
          · replace h := h.2 z
            refine xJ.aload_n (o_VectorSolverLaw_law 192 rfl) rfl ?_
            refine xJ.iconst (v := 0) (o_VectorSolverLaw_law 193 rfl) (by decide) ?_
            refine xJ.laload (o_VectorSolverLaw_law 194 rfl) rfl h.1 ?_
            replace h := h.2
            refine xJ.iload (o_VectorSolverLaw_law 195 rfl) rfl ?_
            refine xJ.if_eq (tgt := 378) (o_VectorSolverLaw_law 196 rfl) (by decide) (fun z => ?_) (fun z => ?_)
            · replace h := h.1 z
              refine xJ.lconst (v := 0) (o_VectorSolverLaw_law 199 rfl) (by decide) ?_
              exact xJ.lvs (by exact ⟨rfl, rfl, rfl, rfl, rfl, trivial⟩) (sw_VectorSolverLaw_law_379 ih h)
            · replace h := h.2 z
              refine xJ.lconst (v := 1) (o_VectorSolverLaw_law 197 rfl) (by decide) ?_
              refine xJ.goto (tgt := 379) (o_VectorSolverLaw_law 198 rfl) (by decide) ?_
              exact xJ.lvs (by exact ⟨rfl, rfl, rfl, rfl, rfl, trivial⟩) (sw_VectorSolverLaw_law_379 ih h)
        · replace h := h.2 z
          refine xJ.iconst (v := 0) (o_VectorSolverLaw_law 188 rfl) (by decide) ?_
          exact xJ.zreturn (o_VectorSolverLaw_law 189 rfl) rfl (Or.inl rfl) h
      · replace h := h.2.2.2.2.2.1 z
        refine xJ.aload_n (o_VectorSolverLaw_law 205 rfl) rfl ?_
        refine xJ.aload_n (o_VectorSolverLaw_law 206 rfl) rfl ?_
        refine xJ.callS (Y' := Y_VectorSolverLaw_more) (o_VectorSolverLaw_law 207 rfl) m_VectorSolverLaw_79 y_VectorSolverLaw_more st_VectorSolverLaw_more (s_VectorSolverLaw_more_0_84 h) rfl rfl (Nat.le_of_ble_eq_true rfl) (fun _ hx => by cases hx) (fun v u q => ?_) (fun n u q => q)
        obtain ⟨r, rfl, h⟩ := xqi_get q
        refine xJ.istore (o_VectorSolverLaw_law 208 rfl) (by decide) ?_
        refine xJ.aload_n (o_VectorSolverLaw_law 209 rfl) rfl ?_
        refine xJ.callV (Y' := Y_VectorSolverModel_more) (o_VectorSolverLaw_law 210 rfl) m_VectorSolverLaw_81 y_VectorSolverModel_more im_VectorSolverModel_more se_VectorSolverModel_more rfl rfl (s_VectorSolverModel_more h) rfl rfl (Nat.le_of_ble_eq_true rfl) (fun _ hx => by cases hx) (fun v u q => ?_) (fun n u q => q)
        obtain ⟨r, rfl, h⟩ := xqi_get q
        refine xJ.istore (o_VectorSolverLaw_law 211 rfl) (by decide) ?_
        refine xJ.aload_n (o_VectorSolverLaw_law 212 rfl) rfl ?_
        refine xJ.callV (Y' := Y_VectorSolverModel_thrown) (o_VectorSolverLaw_law 213 rfl) m_VectorSolverLaw_60 y_VectorSolverModel_thrown im_VectorSolverModel_thrown se_VectorSolverModel_thrown rfl rfl (s_VectorSolverModel_thrown h) rfl rfl (Nat.le_of_ble_eq_true rfl) (fun _ hx => by cases hx) (fun v u q => ?_) (fun n u q => q)
        obtain ⟨r, rfl, h⟩ := xqi_get q
        refine xJ.iload (o_VectorSolverLaw_law 214 rfl) rfl ?_
        refine xJ.icmp_eq (tgt := 412) (o_VectorSolverLaw_law 215 rfl) (by decide) (fun z => ?_) (fun z => ?_)
        · replace h := h.1 z
          refine xJ.iload (o_VectorSolverLaw_law 218 rfl) rfl ?_
          refine xJ.if_ne (tgt := 436) (o_VectorSolverLaw_law 219 rfl) (by decide) (fun z => ?_) (fun z => ?_)
          · replace h := h.1 z
            refine xJ.goto (tgt := 774) (o_VectorSolverLaw_law 232 rfl) (by decide) ?_
            refine xJ.iincC (w := 6) (o_VectorSolverLaw_law 443 rfl) rfl (by decide) (by decide) ?_
            replace h := h _ rfl
            refine xJ.goto (tgt := 23) (o_VectorSolverLaw_law 444 rfl) (by decide) ?_
            exact xJ.lvs (by exact ⟨rfl, rfl, rfl, rfl, rfl, trivial⟩) (ih _ _ h)
          · replace h := h.2 z
            refine xJ.aload_n (o_VectorSolverLaw_law 220 rfl) rfl ?_
            refine xJ.iconst (v := 0) (o_VectorSolverLaw_law 221 rfl) (by decide) ?_
            refine xJ.laload (o_VectorSolverLaw_law 222 rfl) rfl h.1 ?_
            replace h := h.2
            refine xJ.iload (o_VectorSolverLaw_law 223 rfl) rfl ?_
            refine xJ.if_eq (tgt := 429) (o_VectorSolverLaw_law 224 rfl) (by decide) (fun z => ?_) (fun z => ?_)
            · replace h := h.1 z
              refine xJ.lconst (v := 0) (o_VectorSolverLaw_law 227 rfl) (by decide) ?_
              exact xJ.lvs (by exact ⟨rfl, rfl, rfl, rfl, rfl, trivial⟩) (sw_VectorSolverLaw_law_430 ih h)
            · replace h := h.2 z
              refine xJ.lconst (v := 1) (o_VectorSolverLaw_law 225 rfl) (by decide) ?_
              refine xJ.goto (tgt := 430) (o_VectorSolverLaw_law 226 rfl) (by decide) ?_
              exact xJ.lvs (by exact ⟨rfl, rfl, rfl, rfl, rfl, trivial⟩) (sw_VectorSolverLaw_law_430 ih h)
        · replace h := h.2 z
          refine xJ.iconst (v := 0) (o_VectorSolverLaw_law 216 rfl) (by decide) ?_
          exact xJ.zreturn (o_VectorSolverLaw_law 217 rfl) rfl (Or.inl rfl) h
      · replace h := h.2.2.2.2.2.2.1 z
        refine xJ.aload_n (o_VectorSolverLaw_law 233 rfl) rfl ?_
        refine xJ.aload_n (o_VectorSolverLaw_law 234 rfl) rfl ?_
        refine xJ.iload (o_VectorSolverLaw_law 235 rfl) rfl ?_
        refine xJ.iconst (v := 1) (o_VectorSolverLaw_law 236 rfl) (by decide) ?_
        refine xJ.iadd (o_VectorSolverLaw_law 237 rfl) ?_
        refine xJ.sld (o_VectorSolverLaw_law 238 rfl) h.1 ?_
        replace h := h.2
        refine xJ.aload_n (o_VectorSolverLaw_law 239 rfl) rfl ?_
        refine xJ.callS (Y' := Y_VectorSolverLaw_suppose) (o_VectorSolverLaw_law 240 rfl) m_VectorSolverLaw_82 y_VectorSolverLaw_suppose st_VectorSolverLaw_suppose (s_VectorSolverLaw_suppose_0_84 h) rfl rfl (Nat.le_of_ble_eq_true rfl) (fun _ hx => by cases hx) (fun v u q => ?_) (fun n u q => q)
        obtain ⟨r, rfl, h⟩ := xqi_get q
        refine xJ.istore (o_VectorSolverLaw_law 241 rfl) (by decide) ?_
        refine xJ.aload_n (o_VectorSolverLaw_law 242 rfl) rfl ?_
        refine xJ.aload_n (o_VectorSolverLaw_law 243 rfl) rfl ?_
        refine xJ.iload (o_VectorSolverLaw_law 244 rfl) rfl ?_
        refine xJ.iconst (v := 1) (o_VectorSolverLaw_law 245 rfl) (by decide) ?_
        refine xJ.iadd (o_VectorSolverLaw_law 246 rfl) ?_
        refine xJ.sld (o_VectorSolverLaw_law 247 rfl) h.1 ?_
        replace h := h.2
        refine xJ.callV (Y' := Y_VectorSolverModel_suppose) (o_VectorSolverLaw_law 248 rfl) m_VectorSolverLaw_84 y_VectorSolverModel_suppose im_VectorSolverModel_suppose se_VectorSolverModel_suppose rfl rfl (s_VectorSolverModel_suppose h) rfl rfl (Nat.le_of_ble_eq_true rfl) (fun _ hx => by cases hx) (fun v u q => ?_) (fun n u q => q)
        obtain ⟨r, rfl, h⟩ := xqi_get q
        refine xJ.istore (o_VectorSolverLaw_law 249 rfl) (by decide) ?_
        refine xJ.aload_n (o_VectorSolverLaw_law 250 rfl) rfl ?_
        refine xJ.callV (Y' := Y_VectorSolverModel_thrown) (o_VectorSolverLaw_law 251 rfl) m_VectorSolverLaw_60 y_VectorSolverModel_thrown im_VectorSolverModel_thrown se_VectorSolverModel_thrown rfl rfl (s_VectorSolverModel_thrown h) rfl rfl (Nat.le_of_ble_eq_true rfl) (fun _ hx => by cases hx) (fun v u q => ?_) (fun n u q => q)
        obtain ⟨r, rfl, h⟩ := xqi_get q
        refine xJ.iload (o_VectorSolverLaw_law 252 rfl) rfl ?_
        refine xJ.icmp_eq (tgt := 475) (o_VectorSolverLaw_law 253 rfl) (by decide) (fun z => ?_) (fun z => ?_)
        · replace h := h.1 z
          refine xJ.iload (o_VectorSolverLaw_law 256 rfl) rfl ?_
          refine xJ.if_ne (tgt := 499) (o_VectorSolverLaw_law 257 rfl) (by decide) (fun z => ?_) (fun z => ?_)
          · replace h := h.1 z
            refine xJ.goto (tgt := 774) (o_VectorSolverLaw_law 270 rfl) (by decide) ?_
            refine xJ.iincC (w := 6) (o_VectorSolverLaw_law 443 rfl) rfl (by decide) (by decide) ?_
            replace h := h _ rfl
            refine xJ.goto (tgt := 23) (o_VectorSolverLaw_law 444 rfl) (by decide) ?_
            exact xJ.lvs (by exact ⟨rfl, rfl, rfl, rfl, rfl, trivial⟩) (ih _ _ h)
          · replace h := h.2 z
            refine xJ.aload_n (o_VectorSolverLaw_law 258 rfl) rfl ?_
            refine xJ.iconst (v := 0) (o_VectorSolverLaw_law 259 rfl) (by decide) ?_
            refine xJ.laload (o_VectorSolverLaw_law 260 rfl) rfl h.1 ?_
            replace h := h.2
            refine xJ.iload (o_VectorSolverLaw_law 261 rfl) rfl ?_
            refine xJ.if_eq (tgt := 492) (o_VectorSolverLaw_law 262 rfl) (by decide) (fun z => ?_) (fun z => ?_)
            · replace h := h.1 z
              refine xJ.lconst (v := 0) (o_VectorSolverLaw_law 265 rfl) (by decide) ?_
              exact xJ.lvs (by exact ⟨rfl, rfl, rfl, rfl, rfl, trivial⟩) (sw_VectorSolverLaw_law_493 ih h)
            · replace h := h.2 z
              refine xJ.lconst (v := 1) (o_VectorSolverLaw_law 263 rfl) (by decide) ?_
              refine xJ.goto (tgt := 493) (o_VectorSolverLaw_law 264 rfl) (by decide) ?_
              exact xJ.lvs (by exact ⟨rfl, rfl, rfl, rfl, rfl, trivial⟩) (sw_VectorSolverLaw_law_493 ih h)
        · replace h := h.2 z
          refine xJ.iconst (v := 0) (o_VectorSolverLaw_law 254 rfl) (by decide) ?_
          exact xJ.zreturn (o_VectorSolverLaw_law 255 rfl) rfl (Or.inl rfl) h
      · replace h := h.2.2.2.2.2.2.2.1 z
        refine xJ.aload_n (o_VectorSolverLaw_law 271 rfl) rfl ?_
        refine xJ.aload_n (o_VectorSolverLaw_law 272 rfl) rfl ?_
        refine xJ.iload (o_VectorSolverLaw_law 273 rfl) rfl ?_
        refine xJ.iconst (v := 1) (o_VectorSolverLaw_law 274 rfl) (by decide) ?_
        refine xJ.iadd (o_VectorSolverLaw_law 275 rfl) ?_
        refine xJ.sld (o_VectorSolverLaw_law 276 rfl) h.1 ?_
        replace h := h.2
        refine xJ.aload_n (o_VectorSolverLaw_law 277 rfl) rfl ?_
        refine xJ.iload (o_VectorSolverLaw_law 278 rfl) rfl ?_
        refine xJ.iconst (v := 2) (o_VectorSolverLaw_law 279 rfl) (by decide) ?_
        refine xJ.iadd (o_VectorSolverLaw_law 280 rfl) ?_
        refine xJ.sld (o_VectorSolverLaw_law 281 rfl) h.1 ?_
        replace h := h.2
        refine xJ.aload_n (o_VectorSolverLaw_law 282 rfl) rfl ?_
        refine xJ.callS (Y' := Y_VectorSolverLaw_value) (o_VectorSolverLaw_law 283 rfl) m_VectorSolverLaw_85 y_VectorSolverLaw_value st_VectorSolverLaw_value (s_VectorSolverLaw_value_0_84 h) rfl rfl (Nat.le_of_ble_eq_true rfl) (fun _ hx => by cases hx) (fun v u q => ?_) (fun n u q => q)
        obtain ⟨r, rfl, h⟩ := xqi_get q
        refine xJ.istore (o_VectorSolverLaw_law 284 rfl) (by decide) ?_
        refine xJ.aload_n (o_VectorSolverLaw_law 285 rfl) rfl ?_
        refine xJ.aload_n (o_VectorSolverLaw_law 286 rfl) rfl ?_
        refine xJ.iload (o_VectorSolverLaw_law 287 rfl) rfl ?_
        refine xJ.iconst (v := 1) (o_VectorSolverLaw_law 288 rfl) (by decide) ?_
        refine xJ.iadd (o_VectorSolverLaw_law 289 rfl) ?_
        refine xJ.sld (o_VectorSolverLaw_law 290 rfl) h.1 ?_
        replace h := h.2
        refine xJ.aload_n (o_VectorSolverLaw_law 291 rfl) rfl ?_
        refine xJ.iload (o_VectorSolverLaw_law 292 rfl) rfl ?_
        refine xJ.iconst (v := 2) (o_VectorSolverLaw_law 293 rfl) (by decide) ?_
        refine xJ.iadd (o_VectorSolverLaw_law 294 rfl) ?_
        refine xJ.sld (o_VectorSolverLaw_law 295 rfl) h.1 ?_
        replace h := h.2
        refine xJ.callV (Y' := Y_VectorSolverModel_value) (o_VectorSolverLaw_law 296 rfl) m_VectorSolverLaw_88 y_VectorSolverModel_value im_VectorSolverModel_value se_VectorSolverModel_value rfl rfl (s_VectorSolverModel_value h) rfl rfl (Nat.le_of_ble_eq_true rfl) (fun _ hx => by cases hx) (fun v u q => ?_) (fun n u q => q)
        obtain ⟨r, rfl, h⟩ := xql_get q
        refine xJ.lstore (o_VectorSolverLaw_law 297 rfl) (by decide) ?_
        refine xJ.aload_n (o_VectorSolverLaw_law 298 rfl) rfl ?_
        refine xJ.callV (Y' := Y_VectorSolverModel_thrown) (o_VectorSolverLaw_law 299 rfl) m_VectorSolverLaw_60 y_VectorSolverModel_thrown im_VectorSolverModel_thrown se_VectorSolverModel_thrown rfl rfl (s_VectorSolverModel_thrown h) rfl rfl (Nat.le_of_ble_eq_true rfl) (fun _ hx => by cases hx) (fun v u q => ?_) (fun n u q => q)
        obtain ⟨r, rfl, h⟩ := xqi_get q
        refine xJ.iload (o_VectorSolverLaw_law 300 rfl) rfl ?_
        refine xJ.icmp_eq (tgt := 550) (o_VectorSolverLaw_law 301 rfl) (by decide) (fun z => ?_) (fun z => ?_)
        · replace h := h.1 z
          refine xJ.iload (o_VectorSolverLaw_law 304 rfl) rfl ?_
          refine xJ.if_ne (tgt := 566) (o_VectorSolverLaw_law 305 rfl) (by decide) (fun z => ?_) (fun z => ?_)
          · replace h := h.1 z
            refine xJ.goto (tgt := 774) (o_VectorSolverLaw_law 314 rfl) (by decide) ?_
            refine xJ.iincC (w := 6) (o_VectorSolverLaw_law 443 rfl) rfl (by decide) (by decide) ?_
            replace h := h _ rfl
            refine xJ.goto (tgt := 23) (o_VectorSolverLaw_law 444 rfl) (by decide) ?_
            exact xJ.lvs (by exact ⟨rfl, rfl, rfl, rfl, rfl, trivial⟩) (ih _ _ h)
          · replace h := h.2 z
            refine xJ.aload_n (o_VectorSolverLaw_law 306 rfl) rfl ?_
            refine xJ.iconst (v := 0) (o_VectorSolverLaw_law 307 rfl) (by decide) ?_
            refine xJ.laload (o_VectorSolverLaw_law 308 rfl) rfl h.1 ?_
            replace h := h.2
            refine xJ.lload (o_VectorSolverLaw_law 309 rfl) rfl ?_
            refine xJ.lcmp (o_VectorSolverLaw_law 310 rfl) ?_
            refine xJ.if_eq (tgt := 566) (o_VectorSolverLaw_law 311 rfl) (by decide) (fun z => ?_) (fun z => ?_)
            · replace h := h.1 z
              refine xJ.goto (tgt := 774) (o_VectorSolverLaw_law 314 rfl) (by decide) ?_
              refine xJ.iincC (w := 6) (o_VectorSolverLaw_law 443 rfl) rfl (by decide) (by decide) ?_
              replace h := h _ rfl
              refine xJ.goto (tgt := 23) (o_VectorSolverLaw_law 444 rfl) (by decide) ?_
              exact xJ.lvs (by exact ⟨rfl, rfl, rfl, rfl, rfl, trivial⟩) (ih _ _ h)
            · replace h := h.2 z
              refine xJ.iconst (v := 0) (o_VectorSolverLaw_law 312 rfl) (by decide) ?_
              exact xJ.zreturn (o_VectorSolverLaw_law 313 rfl) rfl (Or.inl rfl) h
        · replace h := h.2 z
          refine xJ.iconst (v := 0) (o_VectorSolverLaw_law 302 rfl) (by decide) ?_
          exact xJ.zreturn (o_VectorSolverLaw_law 303 rfl) rfl (Or.inl rfl) h
      · replace h := h.2.2.2.2.2.2.2.2.1 z
        refine xJ.aload_n (o_VectorSolverLaw_law 315 rfl) rfl ?_
        refine xJ.aload_n (o_VectorSolverLaw_law 316 rfl) rfl ?_
        refine xJ.iload (o_VectorSolverLaw_law 317 rfl) rfl ?_
        refine xJ.iconst (v := 1) (o_VectorSolverLaw_law 318 rfl) (by decide) ?_
        refine xJ.iadd (o_VectorSolverLaw_law 319 rfl) ?_
        refine xJ.sld (o_VectorSolverLaw_law 320 rfl) h.1 ?_
        replace h := h.2
        refine xJ.aload_n (o_VectorSolverLaw_law 321 rfl) rfl ?_
        refine xJ.callS (Y' := Y_VectorSolverLaw_named) (o_VectorSolverLaw_law 322 rfl) m_VectorSolverLaw_89 y_VectorSolverLaw_named st_VectorSolverLaw_named (s_VectorSolverLaw_named_0_84 h) rfl rfl (Nat.le_of_ble_eq_true rfl) (fun _ hx => by cases hx) (fun v u q => ?_) (fun n u q => q)
        obtain ⟨r, rfl, h⟩ := xqi_get q
        refine xJ.istore (o_VectorSolverLaw_law 323 rfl) (by decide) ?_
        refine xJ.aload_n (o_VectorSolverLaw_law 324 rfl) rfl ?_
        refine xJ.aload_n (o_VectorSolverLaw_law 325 rfl) rfl ?_
        refine xJ.iload (o_VectorSolverLaw_law 326 rfl) rfl ?_
        refine xJ.iconst (v := 1) (o_VectorSolverLaw_law 327 rfl) (by decide) ?_
        refine xJ.iadd (o_VectorSolverLaw_law 328 rfl) ?_
        refine xJ.sld (o_VectorSolverLaw_law 329 rfl) h.1 ?_
        replace h := h.2
        refine xJ.callV (Y' := Y_VectorSolverModel_named) (o_VectorSolverLaw_law 330 rfl) m_VectorSolverLaw_91 y_VectorSolverModel_named im_VectorSolverModel_named se_VectorSolverModel_named rfl rfl (s_VectorSolverModel_named h) rfl rfl (Nat.le_of_ble_eq_true rfl) (fun _ hx => by cases hx) (fun v u q => ?_) (fun n u q => q)
        obtain ⟨r, rfl, h⟩ := xql_get q
        refine xJ.lstore (o_VectorSolverLaw_law 331 rfl) (by decide) ?_
        refine xJ.aload_n (o_VectorSolverLaw_law 332 rfl) rfl ?_
        refine xJ.callV (Y' := Y_VectorSolverModel_thrown) (o_VectorSolverLaw_law 333 rfl) m_VectorSolverLaw_60 y_VectorSolverModel_thrown im_VectorSolverModel_thrown se_VectorSolverModel_thrown rfl rfl (s_VectorSolverModel_thrown h) rfl rfl (Nat.le_of_ble_eq_true rfl) (fun _ hx => by cases hx) (fun v u q => ?_) (fun n u q => q)
        obtain ⟨r, rfl, h⟩ := xqi_get q
        refine xJ.iload (o_VectorSolverLaw_law 334 rfl) rfl ?_
        refine xJ.icmp_eq (tgt := 605) (o_VectorSolverLaw_law 335 rfl) (by decide) (fun z => ?_) (fun z => ?_)
        · replace h := h.1 z
          refine xJ.iload (o_VectorSolverLaw_law 338 rfl) rfl ?_
          refine xJ.if_ne (tgt := 621) (o_VectorSolverLaw_law 339 rfl) (by decide) (fun z => ?_) (fun z => ?_)
          · replace h := h.1 z
            refine xJ.goto (tgt := 774) (o_VectorSolverLaw_law 348 rfl) (by decide) ?_
            refine xJ.iincC (w := 6) (o_VectorSolverLaw_law 443 rfl) rfl (by decide) (by decide) ?_
            replace h := h _ rfl
            refine xJ.goto (tgt := 23) (o_VectorSolverLaw_law 444 rfl) (by decide) ?_
            exact xJ.lvs (by exact ⟨rfl, rfl, rfl, rfl, rfl, trivial⟩) (ih _ _ h)
          · replace h := h.2 z
            refine xJ.aload_n (o_VectorSolverLaw_law 340 rfl) rfl ?_
            refine xJ.iconst (v := 0) (o_VectorSolverLaw_law 341 rfl) (by decide) ?_
            refine xJ.laload (o_VectorSolverLaw_law 342 rfl) rfl h.1 ?_
            replace h := h.2
            refine xJ.lload (o_VectorSolverLaw_law 343 rfl) rfl ?_
            refine xJ.lcmp (o_VectorSolverLaw_law 344 rfl) ?_
            refine xJ.if_eq (tgt := 621) (o_VectorSolverLaw_law 345 rfl) (by decide) (fun z => ?_) (fun z => ?_)
            · replace h := h.1 z
              refine xJ.goto (tgt := 774) (o_VectorSolverLaw_law 348 rfl) (by decide) ?_
              refine xJ.iincC (w := 6) (o_VectorSolverLaw_law 443 rfl) rfl (by decide) (by decide) ?_
              replace h := h _ rfl
              refine xJ.goto (tgt := 23) (o_VectorSolverLaw_law 444 rfl) (by decide) ?_
              exact xJ.lvs (by exact ⟨rfl, rfl, rfl, rfl, rfl, trivial⟩) (ih _ _ h)
            · replace h := h.2 z
              refine xJ.iconst (v := 0) (o_VectorSolverLaw_law 346 rfl) (by decide) ?_
              exact xJ.zreturn (o_VectorSolverLaw_law 347 rfl) rfl (Or.inl rfl) h
        · replace h := h.2 z
          refine xJ.iconst (v := 0) (o_VectorSolverLaw_law 336 rfl) (by decide) ?_
          exact xJ.zreturn (o_VectorSolverLaw_law 337 rfl) rfl (Or.inl rfl) h
      · replace h := h.2.2.2.2.2.2.2.2.2.1 z
        refine xJ.aload_n (o_VectorSolverLaw_law 349 rfl) rfl ?_
        refine xJ.callV (Y' := Y_VectorSolver_missed) (o_VectorSolverLaw_law 350 rfl) m_VectorSolverLaw_92 y_VectorSolver_missed im_VectorSolver_missed se_VectorSolver_missed rfl rfl (s_VectorSolver_missed h) rfl rfl (Nat.le_of_ble_eq_true rfl) (fun _ hx => by cases hx) (fun v u q => ?_) (fun n u q => q)
        obtain ⟨r, rfl, h⟩ := xqi_get q
        refine xJ.aload_n (o_VectorSolverLaw_law 351 rfl) rfl ?_
        refine xJ.callV (Y' := Y_VectorSolverModel_missed) (o_VectorSolverLaw_law 352 rfl) m_VectorSolverLaw_95 y_VectorSolverModel_missed im_VectorSolverModel_missed se_VectorSolverModel_missed rfl rfl (s_VectorSolverModel_missed h) rfl rfl (Nat.le_of_ble_eq_true rfl) (fun _ hx => by cases hx) (fun v u q => ?_) (fun n u q => q)
        obtain ⟨r, rfl, h⟩ := xqi_get q
        refine xJ.icmp_eq (tgt := 774) (o_VectorSolverLaw_law 353 rfl) (by decide) (fun z => ?_) (fun z => ?_)
        · replace h := h.1 z
          refine xJ.iincC (w := 6) (o_VectorSolverLaw_law 443 rfl) rfl (by decide) (by decide) ?_
          replace h := h _ rfl
          refine xJ.goto (tgt := 23) (o_VectorSolverLaw_law 444 rfl) (by decide) ?_
          exact xJ.lvs (by exact ⟨rfl, rfl, rfl, rfl, rfl, trivial⟩) (ih _ _ h)
        · replace h := h.2 z
          refine xJ.iconst (v := 0) (o_VectorSolverLaw_law 354 rfl) (by decide) ?_
          exact xJ.zreturn (o_VectorSolverLaw_law 355 rfl) rfl (Or.inl rfl) h
      · replace h := h.2.2.2.2.2.2.2.2.2.2.1 z
        refine xJ.aload_n (o_VectorSolverLaw_law 356 rfl) rfl ?_
        refine xJ.callV (Y' := Y_VectorSolver_refused) (o_VectorSolverLaw_law 357 rfl) m_VectorSolverLaw_96 y_VectorSolver_refused im_VectorSolver_refused se_VectorSolver_refused rfl rfl (s_VectorSolver_refused h) rfl rfl (Nat.le_of_ble_eq_true rfl) (fun _ hx => by cases hx) (fun v u q => ?_) (fun n u q => q)
        obtain ⟨r, rfl, h⟩ := xqi_get q
        refine xJ.aload_n (o_VectorSolverLaw_law 358 rfl) rfl ?_
        refine xJ.callV (Y' := Y_VectorSolverModel_refused) (o_VectorSolverLaw_law 359 rfl) m_VectorSolverLaw_99 y_VectorSolverModel_refused im_VectorSolverModel_refused se_VectorSolverModel_refused rfl rfl (s_VectorSolverModel_refused h) rfl rfl (Nat.le_of_ble_eq_true rfl) (fun _ hx => by cases hx) (fun v u q => ?_) (fun n u q => q)
        obtain ⟨r, rfl, h⟩ := xqi_get q
        refine xJ.icmp_eq (tgt := 774) (o_VectorSolverLaw_law 360 rfl) (by decide) (fun z => ?_) (fun z => ?_)
        · replace h := h.1 z
          refine xJ.iincC (w := 6) (o_VectorSolverLaw_law 443 rfl) rfl (by decide) (by decide) ?_
          replace h := h _ rfl
          refine xJ.goto (tgt := 23) (o_VectorSolverLaw_law 444 rfl) (by decide) ?_
          exact xJ.lvs (by exact ⟨rfl, rfl, rfl, rfl, rfl, trivial⟩) (ih _ _ h)
        · replace h := h.2 z
          refine xJ.iconst (v := 0) (o_VectorSolverLaw_law 361 rfl) (by decide) ?_
          exact xJ.zreturn (o_VectorSolverLaw_law 362 rfl) rfl (Or.inl rfl) h
      · replace h := h.2.2.2.2.2.2.2.2.2.2.2.1 z
        refine xJ.aload_n (o_VectorSolverLaw_law 363 rfl) rfl ?_
        refine xJ.aload_n (o_VectorSolverLaw_law 364 rfl) rfl ?_
        refine xJ.iload (o_VectorSolverLaw_law 365 rfl) rfl ?_
        refine xJ.iconst (v := 1) (o_VectorSolverLaw_law 366 rfl) (by decide) ?_
        refine xJ.iadd (o_VectorSolverLaw_law 367 rfl) ?_
        refine xJ.sld (o_VectorSolverLaw_law 368 rfl) h.1 ?_
        replace h := h.2
        refine xJ.aload_n (o_VectorSolverLaw_law 369 rfl) rfl ?_
        refine xJ.iload (o_VectorSolverLaw_law 370 rfl) rfl ?_
        refine xJ.iconst (v := 2) (o_VectorSolverLaw_law 371 rfl) (by decide) ?_
        refine xJ.iadd (o_VectorSolverLaw_law 372 rfl) ?_
        refine xJ.sld (o_VectorSolverLaw_law 373 rfl) h.1 ?_
        replace h := h.2
        refine xJ.aload_n (o_VectorSolverLaw_law 374 rfl) rfl ?_
        refine xJ.callS (Y' := Y_VectorSolverLaw_thing) (o_VectorSolverLaw_law 375 rfl) m_VectorSolverLaw_100 y_VectorSolverLaw_thing st_VectorSolverLaw_thing (s_VectorSolverLaw_thing_0_84 h) rfl rfl (Nat.le_of_ble_eq_true rfl) (fun _ hx => by cases hx) (fun v u q => ?_) (fun n u q => q)
        obtain ⟨r, rfl, h⟩ := xqi_get q
        refine xJ.istore (o_VectorSolverLaw_law 376 rfl) (by decide) ?_
        refine xJ.aload_n (o_VectorSolverLaw_law 377 rfl) rfl ?_
        refine xJ.aload_n (o_VectorSolverLaw_law 378 rfl) rfl ?_
        refine xJ.iload (o_VectorSolverLaw_law 379 rfl) rfl ?_
        refine xJ.iconst (v := 1) (o_VectorSolverLaw_law 380 rfl) (by decide) ?_
        refine xJ.iadd (o_VectorSolverLaw_law 381 rfl) ?_
        refine xJ.sld (o_VectorSolverLaw_law 382 rfl) h.1 ?_
        replace h := h.2
        refine xJ.aload_n (o_VectorSolverLaw_law 383 rfl) rfl ?_
        refine xJ.iload (o_VectorSolverLaw_law 384 rfl) rfl ?_
        refine xJ.iconst (v := 2) (o_VectorSolverLaw_law 385 rfl) (by decide) ?_
        refine xJ.iadd (o_VectorSolverLaw_law 386 rfl) ?_
        refine xJ.sld (o_VectorSolverLaw_law 387 rfl) h.1 ?_
        replace h := h.2
        refine xJ.callV (Y' := Y_VectorSolverModel_thing) (o_VectorSolverLaw_law 388 rfl) m_VectorSolverLaw_102 y_VectorSolverModel_thing im_VectorSolverModel_thing se_VectorSolverModel_thing rfl rfl (s_VectorSolverModel_thing h) rfl rfl (Nat.le_of_ble_eq_true rfl) (fun _ hx => by cases hx) (fun v u q => ?_) (fun n u q => q)
        obtain ⟨r, rfl, h⟩ := xqi_get q
        refine xJ.istore (o_VectorSolverLaw_law 389 rfl) (by decide) ?_
        refine xJ.aload_n (o_VectorSolverLaw_law 390 rfl) rfl ?_
        refine xJ.callV (Y' := Y_VectorSolverModel_thrown) (o_VectorSolverLaw_law 391 rfl) m_VectorSolverLaw_60 y_VectorSolverModel_thrown im_VectorSolverModel_thrown se_VectorSolverModel_thrown rfl rfl (s_VectorSolverModel_thrown h) rfl rfl (Nat.le_of_ble_eq_true rfl) (fun _ hx => by cases hx) (fun v u q => ?_) (fun n u q => q)
        obtain ⟨r, rfl, h⟩ := xqi_get q
        refine xJ.iload (o_VectorSolverLaw_law 392 rfl) rfl ?_
        refine xJ.icmp_eq (tgt := 698) (o_VectorSolverLaw_law 393 rfl) (by decide) (fun z => ?_) (fun z => ?_)
        · replace h := h.1 z
          refine xJ.iload (o_VectorSolverLaw_law 396 rfl) rfl ?_
          refine xJ.if_ne (tgt := 715) (o_VectorSolverLaw_law 397 rfl) (by decide) (fun z => ?_) (fun z => ?_)
          · replace h := h.1 z
            refine xJ.goto (tgt := 774) (o_VectorSolverLaw_law 407 rfl) (by decide) ?_
            refine xJ.iincC (w := 6) (o_VectorSolverLaw_law 443 rfl) rfl (by decide) (by decide) ?_
            replace h := h _ rfl
            refine xJ.goto (tgt := 23) (o_VectorSolverLaw_law 444 rfl) (by decide) ?_
            exact xJ.lvs (by exact ⟨rfl, rfl, rfl, rfl, rfl, trivial⟩) (ih _ _ h)
          · replace h := h.2 z
            refine xJ.aload_n (o_VectorSolverLaw_law 398 rfl) rfl ?_
            refine xJ.iconst (v := 0) (o_VectorSolverLaw_law 399 rfl) (by decide) ?_
            refine xJ.laload (o_VectorSolverLaw_law 400 rfl) rfl h.1 ?_
            replace h := h.2
            refine xJ.iload (o_VectorSolverLaw_law 401 rfl) rfl ?_
            refine xJ.i2l (o_VectorSolverLaw_law 402 rfl) rfl ?_
            refine xJ.lcmp (o_VectorSolverLaw_law 403 rfl) ?_
            refine xJ.if_eq (tgt := 715) (o_VectorSolverLaw_law 404 rfl) (by decide) (fun z => ?_) (fun z => ?_)
            · replace h := h.1 z
              refine xJ.goto (tgt := 774) (o_VectorSolverLaw_law 407 rfl) (by decide) ?_
              refine xJ.iincC (w := 6) (o_VectorSolverLaw_law 443 rfl) rfl (by decide) (by decide) ?_
              replace h := h _ rfl
              refine xJ.goto (tgt := 23) (o_VectorSolverLaw_law 444 rfl) (by decide) ?_
              exact xJ.lvs (by exact ⟨rfl, rfl, rfl, rfl, rfl, trivial⟩) (ih _ _ h)
            · replace h := h.2 z
              refine xJ.iconst (v := 0) (o_VectorSolverLaw_law 405 rfl) (by decide) ?_
              exact xJ.zreturn (o_VectorSolverLaw_law 406 rfl) rfl (Or.inl rfl) h
        · replace h := h.2 z
          refine xJ.iconst (v := 0) (o_VectorSolverLaw_law 394 rfl) (by decide) ?_
          exact xJ.zreturn (o_VectorSolverLaw_law 395 rfl) rfl (Or.inl rfl) h
      · replace h := h.2.2.2.2.2.2.2.2.2.2.2.2.1 z
        refine xJ.aload_n (o_VectorSolverLaw_law 408 rfl) rfl ?_
        refine xJ.aload_n (o_VectorSolverLaw_law 409 rfl) rfl ?_
        refine xJ.iload (o_VectorSolverLaw_law 410 rfl) rfl ?_
        refine xJ.iconst (v := 1) (o_VectorSolverLaw_law 411 rfl) (by decide) ?_
        refine xJ.iadd (o_VectorSolverLaw_law 412 rfl) ?_
        refine xJ.sld (o_VectorSolverLaw_law 413 rfl) h.1 ?_
        replace h := h.2
        refine xJ.aload_n (o_VectorSolverLaw_law 414 rfl) rfl ?_
        refine xJ.callS (Y' := Y_VectorSolverLaw_count) (o_VectorSolverLaw_law 415 rfl) m_VectorSolverLaw_103 y_VectorSolverLaw_count st_VectorSolverLaw_count (s_VectorSolverLaw_count_0_84 h) rfl rfl (Nat.le_of_ble_eq_true rfl) (fun _ hx => by cases hx) (fun v u q => ?_) (fun n u q => q)
        obtain ⟨r, rfl, h⟩ := xqi_get q
        refine xJ.istore (o_VectorSolverLaw_law 416 rfl) (by decide) ?_
        refine xJ.aload_n (o_VectorSolverLaw_law 417 rfl) rfl ?_
        refine xJ.aload_n (o_VectorSolverLaw_law 418 rfl) rfl ?_
        refine xJ.iload (o_VectorSolverLaw_law 419 rfl) rfl ?_
        refine xJ.iconst (v := 1) (o_VectorSolverLaw_law 420 rfl) (by decide) ?_
        refine xJ.iadd (o_VectorSolverLaw_law 421 rfl) ?_
        refine xJ.sld (o_VectorSolverLaw_law 422 rfl) h.1 ?_
        replace h := h.2
        refine xJ.callV (Y' := Y_VectorSolverModel_count) (o_VectorSolverLaw_law 423 rfl) m_VectorSolverLaw_105 y_VectorSolverModel_count im_VectorSolverModel_count se_VectorSolverModel_count rfl rfl (s_VectorSolverModel_count h) rfl rfl (Nat.le_of_ble_eq_true rfl) (fun _ hx => by cases hx) (fun v u q => ?_) (fun n u q => q)
        obtain ⟨r, rfl, h⟩ := xqi_get q
        refine xJ.istore (o_VectorSolverLaw_law 424 rfl) (by decide) ?_
        refine xJ.aload_n (o_VectorSolverLaw_law 425 rfl) rfl ?_
        refine xJ.callV (Y' := Y_VectorSolverModel_thrown) (o_VectorSolverLaw_law 426 rfl) m_VectorSolverLaw_60 y_VectorSolverModel_thrown im_VectorSolverModel_thrown se_VectorSolverModel_thrown rfl rfl (s_VectorSolverModel_thrown h) rfl rfl (Nat.le_of_ble_eq_true rfl) (fun _ hx => by cases hx) (fun v u q => ?_) (fun n u q => q)
        obtain ⟨r, rfl, h⟩ := xqi_get q
        refine xJ.iload (o_VectorSolverLaw_law 427 rfl) rfl ?_
        refine xJ.icmp_eq (tgt := 754) (o_VectorSolverLaw_law 428 rfl) (by decide) (fun z => ?_) (fun z => ?_)
        · replace h := h.1 z
          refine xJ.iload (o_VectorSolverLaw_law 431 rfl) rfl ?_
          refine xJ.if_ne (tgt := 771) (o_VectorSolverLaw_law 432 rfl) (by decide) (fun z => ?_) (fun z => ?_)
          · replace h := h.1 z
            refine xJ.goto (tgt := 774) (o_VectorSolverLaw_law 442 rfl) (by decide) ?_
            refine xJ.iincC (w := 6) (o_VectorSolverLaw_law 443 rfl) rfl (by decide) (by decide) ?_
            replace h := h _ rfl
            refine xJ.goto (tgt := 23) (o_VectorSolverLaw_law 444 rfl) (by decide) ?_
            exact xJ.lvs (by exact ⟨rfl, rfl, rfl, rfl, rfl, trivial⟩) (ih _ _ h)
          · replace h := h.2 z
            refine xJ.aload_n (o_VectorSolverLaw_law 433 rfl) rfl ?_
            refine xJ.iconst (v := 0) (o_VectorSolverLaw_law 434 rfl) (by decide) ?_
            refine xJ.laload (o_VectorSolverLaw_law 435 rfl) rfl h.1 ?_
            replace h := h.2
            refine xJ.iload (o_VectorSolverLaw_law 436 rfl) rfl ?_
            refine xJ.i2l (o_VectorSolverLaw_law 437 rfl) rfl ?_
            refine xJ.lcmp (o_VectorSolverLaw_law 438 rfl) ?_
            refine xJ.if_eq (tgt := 771) (o_VectorSolverLaw_law 439 rfl) (by decide) (fun z => ?_) (fun z => ?_)
            · replace h := h.1 z
              refine xJ.goto (tgt := 774) (o_VectorSolverLaw_law 442 rfl) (by decide) ?_
              refine xJ.iincC (w := 6) (o_VectorSolverLaw_law 443 rfl) rfl (by decide) (by decide) ?_
              replace h := h _ rfl
              refine xJ.goto (tgt := 23) (o_VectorSolverLaw_law 444 rfl) (by decide) ?_
              exact xJ.lvs (by exact ⟨rfl, rfl, rfl, rfl, rfl, trivial⟩) (ih _ _ h)
            · replace h := h.2 z
              refine xJ.iconst (v := 0) (o_VectorSolverLaw_law 440 rfl) (by decide) ?_
              exact xJ.zreturn (o_VectorSolverLaw_law 441 rfl) rfl (Or.inl rfl) h
        · replace h := h.2 z
          refine xJ.iconst (v := 0) (o_VectorSolverLaw_law 429 rfl) (by decide) ?_
          exact xJ.zreturn (o_VectorSolverLaw_law 430 rfl) rfl (Or.inl rfl) h
      · replace h := h.2.2.2.2.2.2.2.2.2.2.2.2.2 z
        refine xJ.iincC (w := 6) (o_VectorSolverLaw_law 443 rfl) rfl (by decide) (by decide) ?_
        replace h := h _ rfl
        refine xJ.goto (tgt := 23) (o_VectorSolverLaw_law 444 rfl) (by decide) ?_
        exact xJ.lvs (by exact ⟨rfl, rfl, rfl, rfl, rfl, trivial⟩) (ih _ _ h)
set_option maxRecDepth 20000 in
theorem s_law {γ : xG1} {d b0 : Nat} {Q : xO → xS → Prop} {σ : xS} (h : wp_law (xsL (SHP, γ)) (xsx (SHP, γ)) Q σ) : xJ (SHP, γ) Y_VectorSolverLaw_law (d + 269) b0 20 [(0, .ref 920), (1, .ref 0), (2, .ref 50), (3, .ref 84)] [] σ Q := by
  refine xJ.iconst (v := 0) (o_VectorSolverLaw_law 11 rfl) (by decide) ?_
  refine xJ.istore (o_VectorSolverLaw_law 12 rfl) (by decide) ?_
  obtain ⟨m, h⟩ := h
  exact xJ.lvs (by exact ⟨rfl, rfl, rfl, rfl, rfl, trivial⟩) (sw_VectorSolverLaw_law_23 m _ _ h)
