
/-! THE CLAIM OUT OF ONE WALK OF THE LAW'S BODY. Your part is whole_start (and what it stands on); all else here is the same for every law, but numbers. -/
def R_law : String := "ShrinkingCallsLaw"
def lw_P (b : Addr) (xs : List Int32) (args : Array Value) (s : State) : Prop := args = #[.ref b] ∧ s.IntsAt b xs ∧ xs.length ≤ 2560 ∧ (Jvm.Cond.and given_1 narrow_1).before args s = true
def lw_Q (_ : Array Value) (s : State) (o : Outcome) (t : State) : Prop := o = .returned (some (.int 1)) ∧ Framed s o t [] 600000 7302250
def lw_Z (below : List Frame) (a : Array Value) (s : State) : State → Prop := fun t => ∃ o, t.status = .running ∧ Ended t below o ∧ lw_Q a s o t
/-- the law's own end, with 1 on the stack, nothing written that was there before, its room as the claim has it -/
theorem lw_ret {p : Program} {l : Launch} {e : Env} {s : State} {m : MethodId} {below : List Frame} {meth : Method} {c : Code} {b : Nat} (hx : p.tables.exec = Jvm.exec) (hb : c.code = code) (hr : meth.sig.returnType = ret) (hlocks : meth.locks = false) {pc : Nat} {H : Heap} {ls : Array Slot} (hdg : decode code pc = .ok (.ireturn, 1)) : W p l e room_1 s m #[Value.ref b] below meth c H [] 600000 7302250 (lw_Z below #[Value.ref b] s) (F0 m pc ls [.int 1]) := by
  intro T hT X
  obtain ⟨fs, hret, hrun, hended, hW, hframe⟩ := X.leave (v := some (.int 1)) (hlocks := hlocks) (fun h => by rw [hr] at h; cases h)
  have hmeth' : T.vm.method? m = some meth := X.method'
  refine ⟨T.setFrames fs, ?_, .returned (some (.int 1)), hrun, hended, rfl, ⟨_, rfl⟩, hW, hframe⟩
  jvm_step X.here [X.here.top, hx, hb, hdg, hmeth', hr, ret, narrow_b1]
  (try refine ⟨rfl, ?_⟩); (try refine ⟨rfl, ?_⟩)
  first | (intro acts; rw [hret _ acts rfl rfl rfl]) | rw [hret _ _ rfl rfl rfl]
  exact Steps.refl _
/-- what holds at the law's entry: the machine, the code, the tables' words (any of lw_tbl by 'hts w (by decide +kernel)'), the script of L ints xs at the cell b, what the Statement gives of the start (any of its parts by flat_of_before) -/
def lw_At (p : Program) (s : State) (m : MethodId) (meth : Method) (c : Code) (b L : Nat) (xs : Nat → Int32) : Prop :=
  p.tables.exec = Jvm.exec ∧ c.code = code ∧ meth.sig.returnType = ret ∧ c.maxLocals = 4 ∧ s.vm.findClass R_law = some m.cls ∧ (∀ w ∈ lw_tbl, w.before #[Value.ref b] s = true) ∧ va_X b L xs s s.heap ∧ b < s.heap.size ∧ meth.locks = false ∧ (Jvm.Cond.and given_1 narrow_1).before #[Value.ref b] s = true

def tb_L_law : Tb := [(0, .new 7, 3), (3, .dup, 1), (4, .invokespecial 9, 3), (7, .astore_n 1, 1), (8, .new 10, 3), (11, .dup, 1), (12, .invokespecial 12, 3), (15, .astore_n 2, 1), (16, .iconst 0, 1), (17, .istore_n 3, 1), (18, .iload_n 3, 1), (19, .aload_n 0, 1), (20, .arraylength, 1), (21, .iconst 5, 1), (22, .isub, 1), (23, .if_icmp .gt 820, 3), (26, .aload_n 0, 1), (27, .iload_n 3, 1), (28, .iaload, 1), (29, .bipush 31, 2), (31, .iand, 1), (32, .tableswitch 805 0 23 #[112, 175, 188, 201, 224, 257, 300, 353, 366, 399, 432, 455, 478, 501, 514, 537, 560, 583, 606, 629, 682, 735, 768, 791], 112), (144, .aload_n 1, 1), (145, .aload_n 0, 1), (146, .iload_n 3, 1), (147, .iconst 1, 1), (148, .iadd, 1), (149, .iaload, 1), (150, .i2l, 1), (151, .bipush 32, 2), (153, .lshl, 1), (154, .aload_n 0, 1), (155, .iload_n 3, 1), (156, .iconst 2, 1), (157, .iadd, 1), (158, .iaload, 1), (159, .i2l, 1), (160, .ldc2_w 13, 3), (163, .land, 1), (164, .lor, 1), (165, .aload_n 0, 1), (166, .iload_n 3, 1), (167, .iconst 3, 1), (168, .iadd, 1), (169, .iaload, 1), (170, .invokevirtual 15, 3), (173, .aload_n 2, 1), (174, .aload_n 0, 1), (175, .iload_n 3, 1), (176, .iconst 1, 1), (177, .iadd, 1), (178, .iaload, 1), (179, .i2l, 1), (180, .bipush 32, 2), (182, .lshl, 1), (183, .aload_n 0, 1), (184, .iload_n 3, 1), (185, .iconst 2, 1), (186, .iadd, 1), (187, .iaload, 1), (188, .i2l, 1), (189, .ldc2_w 13, 3), (192, .land, 1), (193, .lor, 1), (194, .aload_n 0, 1), (195, .iload_n 3, 1), (196, .iconst 3, 1), (197, .iadd, 1), (198, .iaload, 1), (199, .invokevirtual 19, 3), (202, .if_icmp .eq 635, 3), (205, .iconst 0, 1), (206, .ireturn, 1), (207, .aload_n 1, 1), (208, .invokevirtual 20, 3), (211, .aload_n 2, 1), (212, .invokevirtual 24, 3), (215, .if_icmp .eq 622, 3), (218, .iconst 0, 1), (219, .ireturn, 1), (220, .aload_n 1, 1), (221, .invokevirtual 25, 3), (224, .aload_n 2, 1), (225, .invokevirtual 28, 3), (228, .if_icmp .eq 609, 3), (231, .iconst 0, 1), (232, .ireturn, 1), (233, .aload_n 1, 1), (234, .aload_n 0, 1), (235, .iload_n 3, 1), (236, .iconst 1, 1), (237, .iadd, 1), (238, .iaload, 1), (239, .invokevirtual 29, 3), (242, .aload_n 2, 1), (243, .aload_n 0, 1), (244, .iload_n 3, 1), (245, .iconst 1, 1), (246, .iadd, 1), (247, .iaload, 1), (248, .invokevirtual 33, 3), (251, .if_icmp .eq 586, 3), (254, .iconst 0, 1), (255, .ireturn, 1), (256, .aload_n 1, 1), (257, .aload_n 0, 1), (258, .iload_n 3, 1), (259, .iconst 1, 1), (260, .iadd, 1), (261, .iaload, 1), (262, .aload_n 0, 1), (263, .iload_n 3, 1), (264, .iconst 2, 1), (265, .iadd, 1), (266, .iaload, 1), (267, .invokevirtual 34, 3), (270, .aload_n 2, 1), (271, .aload_n 0, 1), (272, .iload_n 3, 1), (273, .iconst 1, 1), (274, .iadd, 1), (275, .iaload, 1), (276, .aload_n 0, 1), (277, .iload_n 3, 1), (278, .iconst 2, 1), (279, .iadd, 1), (280, .iaload, 1), (281, .invokevirtual 38, 3), (284, .if_icmp .eq 553, 3), (287, .iconst 0, 1), (288, .ireturn, 1), (289, .aload_n 1, 1), (290, .aload_n 0, 1), (291, .iload_n 3, 1), (292, .iconst 1, 1), (293, .iadd, 1), (294, .iaload, 1), (295, .aload_n 0, 1), (296, .iload_n 3, 1), (297, .iconst 2, 1), (298, .iadd, 1), (299, .iaload, 1), (300, .aload_n 0, 1), (301, .iload_n 3, 1), (302, .iconst 3, 1), (303, .iadd, 1), (304, .iaload, 1), (305, .invokevirtual 39, 3), (308, .aload_n 2, 1), (309, .aload_n 0, 1), (310, .iload_n 3, 1), (311, .iconst 1, 1), (312, .iadd, 1), (313, .iaload, 1), (314, .aload_n 0, 1), (315, .iload_n 3, 1), (316, .iconst 2, 1), (317, .iadd, 1), (318, .iaload, 1), (319, .aload_n 0, 1), (320, .iload_n 3, 1), (321, .iconst 3, 1), (322, .iadd, 1), (323, .iaload, 1), (324, .invokevirtual 43, 3), (327, .if_icmp .eq 510, 3), (330, .iconst 0, 1), (331, .ireturn, 1), (332, .aload_n 1, 1), (333, .aload_n 0, 1), (334, .iload_n 3, 1), (335, .iconst 1, 1), (336, .iadd, 1), (337, .iaload, 1), (338, .aload_n 0, 1), (339, .iload_n 3, 1), (340, .iconst 2, 1), (341, .iadd, 1), (342, .iaload, 1), (343, .aload_n 0, 1), (344, .iload_n 3, 1), (345, .iconst 3, 1), (346, .iadd, 1), (347, .iaload, 1), (348, .aload_n 0, 1), (349, .iload_n 3, 1), (350, .iconst 4, 1), (351, .iadd, 1), (352, .iaload, 1), (353, .invokevirtual 44, 3), (356, .aload_n 2, 1), (357, .aload_n 0, 1), (358, .iload_n 3, 1), (359, .iconst 1, 1), (360, .iadd, 1), (361, .iaload, 1), (362, .aload_n 0, 1), (363, .iload_n 3, 1), (364, .iconst 2, 1), (365, .iadd, 1), (366, .iaload, 1), (367, .aload_n 0, 1), (368, .iload_n 3, 1), (369, .iconst 3, 1), (370, .iadd, 1), (371, .iaload, 1), (372, .aload_n 0, 1), (373, .iload_n 3, 1), (374, .iconst 4, 1), (375, .iadd, 1), (376, .iaload, 1), (377, .invokevirtual 48, 3), (380, .if_icmp .eq 457, 3), (383, .iconst 0, 1), (384, .ireturn, 1), (385, .aload_n 1, 1), (386, .invokevirtual 49, 3), (389, .aload_n 2, 1), (390, .invokevirtual 52, 3), (393, .if_icmp .eq 444, 3), (396, .iconst 0, 1), (397, .ireturn, 1), (398, .aload_n 1, 1), (399, .aload_n 0, 1), (400, .iload_n 3, 1), (401, .iconst 1, 1), (402, .iadd, 1), (403, .iaload, 1), (404, .aload_n 0, 1), (405, .iload_n 3, 1), (406, .iconst 2, 1), (407, .iadd, 1), (408, .iaload, 1), (409, .invokevirtual 53, 3), (412, .aload_n 2, 1), (413, .aload_n 0, 1), (414, .iload_n 3, 1), (415, .iconst 1, 1), (416, .iadd, 1), (417, .iaload, 1), (418, .aload_n 0, 1), (419, .iload_n 3, 1), (420, .iconst 2, 1), (421, .iadd, 1), (422, .iaload, 1), (423, .invokevirtual 56, 3), (426, .if_icmp .eq 411, 3), (429, .iconst 0, 1), (430, .ireturn, 1), (431, .aload_n 1, 1), (432, .aload_n 0, 1), (433, .iload_n 3, 1), (434, .iconst 1, 1), (435, .iadd, 1), (436, .iaload, 1), (437, .aload_n 0, 1), (438, .iload_n 3, 1), (439, .iconst 2, 1), (440, .iadd, 1), (441, .iaload, 1), (442, .invokevirtual 57, 3), (445, .aload_n 2, 1), (446, .aload_n 0, 1), (447, .iload_n 3, 1), (448, .iconst 1, 1), (449, .iadd, 1), (450, .iaload, 1), (451, .aload_n 0, 1), (452, .iload_n 3, 1), (453, .iconst 2, 1), (454, .iadd, 1), (455, .iaload, 1), (456, .invokevirtual 60, 3), (459, .if_icmp .eq 378, 3), (462, .iconst 0, 1), (463, .ireturn, 1), (464, .aload_n 1, 1), (465, .aload_n 0, 1), (466, .iload_n 3, 1), (467, .iconst 1, 1), (468, .iadd, 1), (469, .iaload, 1), (470, .invokevirtual 61, 3), (473, .aload_n 2, 1), (474, .aload_n 0, 1), (475, .iload_n 3, 1), (476, .iconst 1, 1), (477, .iadd, 1), (478, .iaload, 1), (479, .invokevirtual 64, 3), (482, .if_icmp .eq 355, 3), (485, .iconst 0, 1), (486, .ireturn, 1), (487, .aload_n 1, 1), (488, .aload_n 0, 1), (489, .iload_n 3, 1), (490, .iconst 1, 1), (491, .iadd, 1), (492, .iaload, 1), (493, .invokevirtual 65, 3), (496, .aload_n 2, 1), (497, .aload_n 0, 1), (498, .iload_n 3, 1), (499, .iconst 1, 1), (500, .iadd, 1), (501, .iaload, 1), (502, .invokevirtual 68, 3), (505, .if_icmp .eq 332, 3), (508, .iconst 0, 1), (509, .ireturn, 1), (510, .aload_n 1, 1), (511, .aload_n 0, 1), (512, .iload_n 3, 1), (513, .iconst 1, 1), (514, .iadd, 1), (515, .iaload, 1), (516, .invokevirtual 69, 3), (519, .aload_n 2, 1), (520, .aload_n 0, 1), (521, .iload_n 3, 1), (522, .iconst 1, 1), (523, .iadd, 1), (524, .iaload, 1), (525, .invokevirtual 72, 3), (528, .if_icmp .eq 309, 3), (531, .iconst 0, 1), (532, .ireturn, 1), (533, .aload_n 1, 1), (534, .invokevirtual 73, 3), (537, .aload_n 2, 1), (538, .invokevirtual 76, 3), (541, .if_icmp .eq 296, 3), (544, .iconst 0, 1), (545, .ireturn, 1), (546, .aload_n 1, 1), (547, .aload_n 0, 1), (548, .iload_n 3, 1), (549, .iconst 1, 1), (550, .iadd, 1), (551, .iaload, 1), (552, .invokevirtual 77, 3), (555, .aload_n 2, 1), (556, .aload_n 0, 1), (557, .iload_n 3, 1), (558, .iconst 1, 1), (559, .iadd, 1), (560, .iaload, 1), (561, .invokevirtual 80, 3), (564, .if_icmp .eq 273, 3), (567, .iconst 0, 1), (568, .ireturn, 1), (569, .aload_n 1, 1), (570, .aload_n 0, 1), (571, .iload_n 3, 1), (572, .iconst 1, 1), (573, .iadd, 1), (574, .iaload, 1), (575, .invokevirtual 81, 3), (578, .aload_n 2, 1), (579, .aload_n 0, 1), (580, .iload_n 3, 1), (581, .iconst 1, 1), (582, .iadd, 1), (583, .iaload, 1), (584, .invokevirtual 84, 3), (587, .if_icmp .eq 250, 3), (590, .iconst 0, 1), (591, .ireturn, 1), (592, .aload_n 1, 1), (593, .aload_n 0, 1), (594, .iload_n 3, 1), (595, .iconst 1, 1), (596, .iadd, 1), (597, .iaload, 1), (598, .invokevirtual 85, 3), (601, .aload_n 2, 1), (602, .aload_n 0, 1), (603, .iload_n 3, 1), (604, .iconst 1, 1), (605, .iadd, 1), (606, .iaload, 1), (607, .invokevirtual 88, 3), (610, .if_icmp .eq 227, 3), (613, .iconst 0, 1), (614, .ireturn, 1), (615, .aload_n 1, 1), (616, .aload_n 0, 1), (617, .iload_n 3, 1), (618, .iconst 1, 1), (619, .iadd, 1), (620, .iaload, 1), (621, .invokevirtual 89, 3), (624, .aload_n 2, 1), (625, .aload_n 0, 1), (626, .iload_n 3, 1), (627, .iconst 1, 1), (628, .iadd, 1), (629, .iaload, 1), (630, .invokevirtual 92, 3), (633, .if_icmp .eq 204, 3), (636, .iconst 0, 1), (637, .ireturn, 1), (638, .aload_n 1, 1), (639, .aload_n 0, 1), (640, .iload_n 3, 1), (641, .iconst 1, 1), (642, .iadd, 1), (643, .iaload, 1), (644, .invokevirtual 93, 3), (647, .aload_n 2, 1), (648, .aload_n 0, 1), (649, .iload_n 3, 1), (650, .iconst 1, 1), (651, .iadd, 1), (652, .iaload, 1), (653, .invokevirtual 96, 3), (656, .if_icmp .eq 181, 3), (659, .iconst 0, 1), (660, .ireturn, 1), (661, .aload_n 1, 1), (662, .aload_n 0, 1), (663, .iload_n 3, 1), (664, .iconst 1, 1), (665, .iadd, 1), (666, .iaload, 1), (667, .aload_n 0, 1), (668, .iload_n 3, 1), (669, .iconst 2, 1), (670, .iadd, 1), (671, .iaload, 1), (672, .aload_n 0, 1), (673, .iload_n 3, 1), (674, .iconst 3, 1), (675, .iadd, 1), (676, .iaload, 1), (677, .aload_n 0, 1), (678, .iload_n 3, 1), (679, .iconst 4, 1), (680, .iadd, 1), (681, .iaload, 1), (682, .invokevirtual 97, 3), (685, .aload_n 2, 1), (686, .aload_n 0, 1), (687, .iload_n 3, 1), (688, .iconst 1, 1), (689, .iadd, 1), (690, .iaload, 1), (691, .aload_n 0, 1), (692, .iload_n 3, 1), (693, .iconst 2, 1), (694, .iadd, 1), (695, .iaload, 1), (696, .aload_n 0, 1), (697, .iload_n 3, 1), (698, .iconst 3, 1), (699, .iadd, 1), (700, .iaload, 1), (701, .aload_n 0, 1), (702, .iload_n 3, 1), (703, .iconst 4, 1), (704, .iadd, 1), (705, .iaload, 1), (706, .invokevirtual 100, 3), (709, .if_icmp .eq 128, 3), (712, .iconst 0, 1), (713, .ireturn, 1), (714, .aload_n 1, 1), (715, .aload_n 0, 1), (716, .iload_n 3, 1), (717, .iconst 1, 1), (718, .iadd, 1), (719, .iaload, 1), (720, .aload_n 0, 1), (721, .iload_n 3, 1), (722, .iconst 2, 1), (723, .iadd, 1), (724, .iaload, 1), (725, .aload_n 0, 1), (726, .iload_n 3, 1), (727, .iconst 3, 1), (728, .iadd, 1), (729, .iaload, 1), (730, .aload_n 0, 1), (731, .iload_n 3, 1), (732, .iconst 4, 1), (733, .iadd, 1), (734, .iaload, 1), (735, .invokevirtual 101, 3), (738, .aload_n 2, 1), (739, .aload_n 0, 1), (740, .iload_n 3, 1), (741, .iconst 1, 1), (742, .iadd, 1), (743, .iaload, 1), (744, .aload_n 0, 1), (745, .iload_n 3, 1), (746, .iconst 2, 1), (747, .iadd, 1), (748, .iaload, 1), (749, .aload_n 0, 1), (750, .iload_n 3, 1), (751, .iconst 3, 1), (752, .iadd, 1), (753, .iaload, 1), (754, .aload_n 0, 1), (755, .iload_n 3, 1), (756, .iconst 4, 1), (757, .iadd, 1), (758, .iaload, 1), (759, .invokevirtual 104, 3), (762, .if_icmp .eq 75, 3), (765, .iconst 0, 1), (766, .ireturn, 1), (767, .aload_n 1, 1), (768, .aload_n 0, 1), (769, .iload_n 3, 1), (770, .iconst 1, 1), (771, .iadd, 1), (772, .iaload, 1), (773, .aload_n 0, 1), (774, .iload_n 3, 1), (775, .iconst 2, 1), (776, .iadd, 1), (777, .iaload, 1), (778, .invokevirtual 105, 3), (781, .aload_n 2, 1), (782, .aload_n 0, 1), (783, .iload_n 3, 1), (784, .iconst 1, 1), (785, .iadd, 1), (786, .iaload, 1), (787, .aload_n 0, 1), (788, .iload_n 3, 1), (789, .iconst 2, 1), (790, .iadd, 1), (791, .iaload, 1), (792, .invokevirtual 108, 3), (795, .if_icmp .eq 42, 3), (798, .iconst 0, 1), (799, .ireturn, 1), (800, .aload_n 1, 1), (801, .aload_n 0, 1), (802, .iload_n 3, 1), (803, .iconst 1, 1), (804, .iadd, 1), (805, .iaload, 1), (806, .invokevirtual 109, 3), (809, .aload_n 2, 1), (810, .aload_n 0, 1), (811, .iload_n 3, 1), (812, .iconst 1, 1), (813, .iadd, 1), (814, .iaload, 1), (815, .invokevirtual 112, 3), (818, .if_icmp .eq 19, 3), (821, .iconst 0, 1), (822, .ireturn, 1), (823, .aload_n 1, 1), (824, .invokevirtual 113, 3), (827, .aload_n 2, 1), (828, .invokevirtual 117, 3), (831, .lcmp, 1), (832, .ifCond .eq 5, 3), (835, .iconst 0, 1), (836, .ireturn, 1), (837, .iinc 3 5, 3), (840, .goto (-822), 3), (843, .iconst 1, 1), (844, .ireturn, 1)]
set_option maxRecDepth 100000 in
theorem tbk_L_law : tbOk cL_law tb_L_law = true := by decide +kernel
/-- the law's own things: the script, its end -/
def RetLaw (x : CT) (b L : Nat) (xs : Nat → Int32) (K : Int32 → Prop) : Prop := match x with
  | (p, l, e, R, s, m, args, below, meth, c, Q, A, D, k, g) => (va_X b L xs s s.heap ∧ b < s.heap.size ∧ ¬ A b) ∧ (Q = lw_Z below #[Value.ref b] s ∧ args = #[Value.ref b] ∧ R = room_1 ∧ meth.sig.returnType = ret ∧ (∀ q, A q → s.heap.size ≤ q)) ∧ ∀ v, K v → v = 1
theorem x_slenL {x : CT} {cc : ByteArray} {tb : Tb} {nL : Nat} {own : String} {Ts : List Cond} {rm : Room} {ce sl : Nat} {ws : va_W} {lv : List (Nat × Value)} {st : List Value} {b L : Nat} {xs : Nat → Int32} {K : Int32 → Prop} (C : Cx x cc tb nL own Ts rm) (i pc : Nat) (rt : RetLaw x b L xs K) (hi : tb[i]? = some (pc, .arraylength, 1)) (h : Wx x nL ce sl ws lv (pc + 1) (.int (Int32.ofNat L) :: st)) : Wx x nL ce sl ws lv pc (.ref b :: st) := by
  obtain ⟨p, l, e, R, s, m, args, below, meth, c, Q, A, D, k, g⟩ := x
  obtain ⟨⟨hx, hb, hml, hown, hts⟩, htb, hR, hA, hK, hlk, hE⟩ := C
  obtain ⟨⟨r1, r2, r3⟩, -⟩ := rt
  intro H locs ls hP hD hS hl
  exact va_slen hx hb r1 r2 r3 hS (tb_at htb hi) (h H locs ls hP hD hS hl)
theorem x_sldL {x : CT} {cc : ByteArray} {tb : Tb} {nL : Nat} {own : String} {Ts : List Cond} {rm : Room} {ce sl : Nat} {ws : va_W} {lv : List (Nat × Value)} {st : List Value} {b L : Nat} {xs : Nat → Int32} {K : Int32 → Prop} {j : Int32} (C : Cx x cc tb nL own Ts rm) (i pc : Nat) (rt : RetLaw x b L xs K) (hi : tb[i]? = some (pc, .iaload, 1)) (hj : vp_in j L) (h : Wx x nL ce sl ws lv (pc + 1) (.int (xs j.toNatClampNeg) :: st)) : Wx x nL ce sl ws lv pc (.int j :: .ref b :: st) := by
  obtain ⟨p, l, e, R, s, m, args, below, meth, c, Q, A, D, k, g⟩ := x
  obtain ⟨⟨hx, hb, hml, hown, hts⟩, htb, hR, hA, hK, hlk, hE⟩ := C
  obtain ⟨⟨r1, r2, r3⟩, -⟩ := rt
  intro H locs ls hP hD hS hl
  exact va_sld hx hb r1 r2 r3 hS hj (tb_at htb hi) (h H locs ls hP hD hS hl)
theorem x_astore_n {x : CT} {cc : ByteArray} {tb : Tb} {nL : Nat} {own : String} {Ts : List Cond} {rm : Room} {ce sl : Nat} {ws : va_W} {lv : List (Nat × Value)} {st : List Value} (C : Cx x cc tb nL own Ts rm) (i pc : Nat) {k : Fin 4} {j : Nat} {v : Nat} {lv' : List (Nat × Value)} (hi : tb[i]? = some (pc, .astore_n k, 1)) (hj : (k : Nat) = j) (hn : j < nL) (ks : List Nat) (hl' : lv_pick ((j, Value.ref v) :: lv.filter (fun q => !(q.1 == j) && !(q.1 + 1 == j && q.2.category == 2))) ks = lv') (h : Wx x nL ce sl ws lv' (pc + 1) st) : Wx x nL ce sl ws lv pc (.ref v :: st) := by
  obtain ⟨p, l, e, R, s, m, args, below, meth, c, Q, A, D, k, g⟩ := x
  obtain ⟨⟨hx, hb, hml, hown, hts⟩, htb, hR, hA, hK, hlk, hE⟩ := C
  intro H locs ls hP hD hS hl
  exact lv_astore_n hx hb (tb_at htb hi) hj hl hn rfl (fun ls2 h2 => h H locs ls2 hP hD hS (lv_sub h2 ks hl'))
theorem x_lawret {x : CT} {tb : Tb} {nL : Nat} {own : String} {Ts : List Cond} {rm : Room} {ce sl : Nat} {ws : va_W} {lv : List (Nat × Value)} {b L : Nat} {xs : Nat → Int32} {K : Int32 → Prop} (C : Cx x code tb nL own Ts rm) (rt : RetLaw x b L xs K) (i pc : Nat) {v : Int32} (hi : tb[i]? = some (pc, .ireturn, 1)) (hc : ce ≤ 600000 ∧ sl ≤ 7302250) (h : K v) : Wx x nL ce sl ws lv pc [.int v] := by
  obtain ⟨p, l, e, R, s, m, args, below, meth, c, Q, A, D, k, g⟩ := x
  obtain ⟨⟨hx, hb, hml, hown, hts⟩, htb, hR, hA, hK, hlk, hE⟩ := C
  obtain ⟨-, ⟨r1, r2, r3, r4, r5⟩, r6⟩ := rt
  have hv := r6 v h
  subst hv r1 r2 r3
  intro H locs ls hP hD hS hl
  refine va_forget (fun q hq => r5 _ (hS.2.2 q hq)) ?_
  refine W.widen (k := 600000) (n := 7302250) hc.1 hc.2 ?_
  exact lw_ret hx hb r4 hlk (tb_at htb hi)
def F_L_law_18 (xs : Nat → Int32) (L : Nat) (K : Int32 → Prop) (R18 : Int32 × St × St × St × St × St × St × St × St × St × Int64 × St × Int64 → Prop) (q1 : Int32 × St × St × St × St × St × St × St × St × St × Int64 × St × Int64) : Prop :=
  (((Int32.ofNat L - (5 : Int32)) < q1.1 → (K (1 : Int32))) ∧ (¬ (Int32.ofNat L - (5 : Int32)) < q1.1 → ((vp_in q1.1 L ∧ ((((xs q1.1.toNatClampNeg &&& (31 : Int32)) = (0 : Int32) → ((vp_in (q1.1 + (1 : Int32)) L ∧ ((vp_in (q1.1 + (2 : Int32)) L ∧ ((vp_in (q1.1 + (3 : Int32)) L ∧ (wp_X9_type q1.2.1 q1.2.2.1 q1.2.2.2.1 q1.2.2.2.2.1 q1.2.2.2.2.2.1 q1.2.2.2.2.2.2.1 q1.2.2.2.2.2.2.2.1 q1.2.2.2.2.2.2.2.2.1 q1.2.2.2.2.2.2.2.2.2.1 q1.2.2.2.2.2.2.2.2.2.2.1 (((xs (q1.1 + (1 : Int32)).toNatClampNeg).toInt64 <<< ((32 : Int32).toInt64 &&& 63)) ||| ((xs (q1.1 + (2 : Int32)).toNatClampNeg).toInt64 &&& (4294967295 : Int64))) (xs (q1.1 + (3 : Int32)).toNatClampNeg) (fun r4 u4 => (vp_in (q1.1 + (1 : Int32)) L ∧ ((vp_in (q1.1 + (2 : Int32)) L ∧ ((vp_in (q1.1 + (3 : Int32)) L ∧ (wp_X10_type q1.2.2.2.2.2.2.2.2.2.2.2.1 q1.2.2.2.2.2.2.2.2.2.2.2.2 (((xs (q1.1 + (1 : Int32)).toNatClampNeg).toInt64 <<< ((32 : Int32).toInt64 &&& 63)) ||| ((xs (q1.1 + (2 : Int32)).toNatClampNeg).toInt64 &&& (4294967295 : Int64))) (xs (q1.1 + (3 : Int32)).toNatClampNeg) (fun r5 u5 => ((r4 = r5 → (∀ y7 : Int32, y7 = q1.1 + (5 : Int32) → (R18 (y7, q1.2.1, u4, q1.2.2.2.1, q1.2.2.2.2.1, q1.2.2.2.2.2.1, q1.2.2.2.2.2.2.1, q1.2.2.2.2.2.2.2.1, q1.2.2.2.2.2.2.2.2.1, q1.2.2.2.2.2.2.2.2.2.1, q1.2.2.2.2.2.2.2.2.2.2.1, u5, q1.2.2.2.2.2.2.2.2.2.2.2.2)))) ∧ (¬ r4 = r5 → (K (0 : Int32)))))))))))))))))))) ∧ (¬ (xs q1.1.toNatClampNeg &&& (31 : Int32)) = (0 : Int32) → (((xs q1.1.toNatClampNeg &&& (31 : Int32)) = (1 : Int32) → (wp_X9_clear q1.2.1 q1.2.2.1 q1.2.2.2.1 q1.2.2.2.2.1 q1.2.2.2.2.2.1 q1.2.2.2.2.2.2.1 q1.2.2.2.2.2.2.2.1 q1.2.2.2.2.2.2.2.2.1 q1.2.2.2.2.2.2.2.2.2.1 q1.2.2.2.2.2.2.2.2.2.2.1 (fun r9 u9 => wp_X10_clear q1.2.2.2.2.2.2.2.2.2.2.2.1 q1.2.2.2.2.2.2.2.2.2.2.2.2 (fun r10 u10 => ((r9 = r10 → (∀ y12 : Int32, y12 = q1.1 + (5 : Int32) → (R18 (y12, q1.2.1, u9, q1.2.2.2.1, q1.2.2.2.2.1, q1.2.2.2.2.2.1, q1.2.2.2.2.2.2.1, q1.2.2.2.2.2.2.2.1, q1.2.2.2.2.2.2.2.2.1, q1.2.2.2.2.2.2.2.2.2.1, q1.2.2.2.2.2.2.2.2.2.2.1, u10, q1.2.2.2.2.2.2.2.2.2.2.2.2)))) ∧ (¬ r9 = r10 → (K (0 : Int32)))))))) ∧ (¬ (xs q1.1.toNatClampNeg &&& (31 : Int32)) = (1 : Int32) → (((xs q1.1.toNatClampNeg &&& (31 : Int32)) = (2 : Int32) → (wp_X9_read q1.2.1 q1.2.2.1 q1.2.2.2.1 q1.2.2.2.2.1 q1.2.2.2.2.2.1 q1.2.2.2.2.2.2.1 q1.2.2.2.2.2.2.2.1 q1.2.2.2.2.2.2.2.2.1 q1.2.2.2.2.2.2.2.2.2.1 q1.2.2.2.2.2.2.2.2.2.2.1 (fun r14 u14 => wp_X10_read q1.2.2.2.2.2.2.2.2.2.2.2.1 q1.2.2.2.2.2.2.2.2.2.2.2.2 (fun r15 u15 => ((r14 = r15 → (∀ y17 : Int32, y17 = q1.1 + (5 : Int32) → (R18 (y17, u14.1, u14.2.1, u14.2.2.1, u14.2.2.2.1, u14.2.2.2.2.1, q1.2.2.2.2.2.2.1, u14.2.2.2.2.2, q1.2.2.2.2.2.2.2.2.1, q1.2.2.2.2.2.2.2.2.2.1, q1.2.2.2.2.2.2.2.2.2.2.1, u15, q1.2.2.2.2.2.2.2.2.2.2.2.2)))) ∧ (¬ r14 = r15 → (K (0 : Int32)))))))) ∧ (¬ (xs q1.1.toNatClampNeg &&& (31 : Int32)) = (2 : Int32) → (((xs q1.1.toNatClampNeg &&& (31 : Int32)) = (3 : Int32) → ((vp_in (q1.1 + (1 : Int32)) L ∧ (wp_X9_places q1.2.1 q1.2.2.1 q1.2.2.2.1 q1.2.2.2.2.1 q1.2.2.2.2.2.1 q1.2.2.2.2.2.2.1 q1.2.2.2.2.2.2.2.1 q1.2.2.2.2.2.2.2.2.1 q1.2.2.2.2.2.2.2.2.2.1 q1.2.2.2.2.2.2.2.2.2.2.1 (xs (q1.1 + (1 : Int32)).toNatClampNeg) (fun r19 => (vp_in (q1.1 + (1 : Int32)) L ∧ (wp_X10_places q1.2.2.2.2.2.2.2.2.2.2.2.1 q1.2.2.2.2.2.2.2.2.2.2.2.2 (xs (q1.1 + (1 : Int32)).toNatClampNeg) (fun r20 => ((r19 = r20 → (∀ y22 : Int32, y22 = q1.1 + (5 : Int32) → (R18 (y22, q1.2.1, q1.2.2.1, q1.2.2.2.1, q1.2.2.2.2.1, q1.2.2.2.2.2.1, q1.2.2.2.2.2.2.1, q1.2.2.2.2.2.2.2.1, q1.2.2.2.2.2.2.2.2.1, q1.2.2.2.2.2.2.2.2.2.1, q1.2.2.2.2.2.2.2.2.2.2.1, q1.2.2.2.2.2.2.2.2.2.2.2.1, q1.2.2.2.2.2.2.2.2.2.2.2.2)))) ∧ (¬ r19 = r20 → (K (0 : Int32)))))))))))) ∧ (¬ (xs q1.1.toNatClampNeg &&& (31 : Int32)) = (3 : Int32) → (((xs q1.1.toNatClampNeg &&& (31 : Int32)) = (4 : Int32) → ((vp_in (q1.1 + (1 : Int32)) L ∧ ((vp_in (q1.1 + (2 : Int32)) L ∧ (wp_X9_call q1.2.1 q1.2.2.1 q1.2.2.2.1 q1.2.2.2.2.1 q1.2.2.2.2.2.1 q1.2.2.2.2.2.2.1 q1.2.2.2.2.2.2.2.1 q1.2.2.2.2.2.2.2.2.1 q1.2.2.2.2.2.2.2.2.2.1 q1.2.2.2.2.2.2.2.2.2.2.1 (xs (q1.1 + (1 : Int32)).toNatClampNeg) (xs (q1.1 + (2 : Int32)).toNatClampNeg) (fun r24 => (vp_in (q1.1 + (1 : Int32)) L ∧ ((vp_in (q1.1 + (2 : Int32)) L ∧ (wp_X10_call q1.2.2.2.2.2.2.2.2.2.2.2.1 q1.2.2.2.2.2.2.2.2.2.2.2.2 (xs (q1.1 + (1 : Int32)).toNatClampNeg) (xs (q1.1 + (2 : Int32)).toNatClampNeg) (fun r25 => ((r24 = r25 → (∀ y27 : Int32, y27 = q1.1 + (5 : Int32) → (R18 (y27, q1.2.1, q1.2.2.1, q1.2.2.2.1, q1.2.2.2.2.1, q1.2.2.2.2.2.1, q1.2.2.2.2.2.2.1, q1.2.2.2.2.2.2.2.1, q1.2.2.2.2.2.2.2.2.1, q1.2.2.2.2.2.2.2.2.2.1, q1.2.2.2.2.2.2.2.2.2.2.1, q1.2.2.2.2.2.2.2.2.2.2.2.1, q1.2.2.2.2.2.2.2.2.2.2.2.2)))) ∧ (¬ r24 = r25 → (K (0 : Int32)))))))))))))))) ∧ (¬ (xs q1.1.toNatClampNeg &&& (31 : Int32)) = (4 : Int32) → (((xs q1.1.toNatClampNeg &&& (31 : Int32)) = (5 : Int32) → ((vp_in (q1.1 + (1 : Int32)) L ∧ ((vp_in (q1.1 + (2 : Int32)) L ∧ ((vp_in (q1.1 + (3 : Int32)) L ∧ (wp_X9_arc q1.2.1 q1.2.2.1 q1.2.2.2.1 q1.2.2.2.2.1 q1.2.2.2.2.2.1 q1.2.2.2.2.2.2.1 q1.2.2.2.2.2.2.2.1 q1.2.2.2.2.2.2.2.2.1 q1.2.2.2.2.2.2.2.2.2.1 q1.2.2.2.2.2.2.2.2.2.2.1 (xs (q1.1 + (1 : Int32)).toNatClampNeg) (xs (q1.1 + (2 : Int32)).toNatClampNeg) (xs (q1.1 + (3 : Int32)).toNatClampNeg) (fun r29 => (vp_in (q1.1 + (1 : Int32)) L ∧ ((vp_in (q1.1 + (2 : Int32)) L ∧ ((vp_in (q1.1 + (3 : Int32)) L ∧ (wp_X10_arc q1.2.2.2.2.2.2.2.2.2.2.2.1 q1.2.2.2.2.2.2.2.2.2.2.2.2 (xs (q1.1 + (1 : Int32)).toNatClampNeg) (xs (q1.1 + (2 : Int32)).toNatClampNeg) (xs (q1.1 + (3 : Int32)).toNatClampNeg) (fun r30 => ((r29 = r30 → (∀ y32 : Int32, y32 = q1.1 + (5 : Int32) → (R18 (y32, q1.2.1, q1.2.2.1, q1.2.2.2.1, q1.2.2.2.2.1, q1.2.2.2.2.2.1, q1.2.2.2.2.2.2.1, q1.2.2.2.2.2.2.2.1, q1.2.2.2.2.2.2.2.2.1, q1.2.2.2.2.2.2.2.2.2.1, q1.2.2.2.2.2.2.2.2.2.2.1, q1.2.2.2.2.2.2.2.2.2.2.2.1, q1.2.2.2.2.2.2.2.2.2.2.2.2)))) ∧ (¬ r29 = r30 → (K (0 : Int32)))))))))))))))))))) ∧ (¬ (xs q1.1.toNatClampNeg &&& (31 : Int32)) = (5 : Int32) → (((xs q1.1.toNatClampNeg &&& (31 : Int32)) = (6 : Int32) → ((vp_in (q1.1 + (1 : Int32)) L ∧ ((vp_in (q1.1 + (2 : Int32)) L ∧ ((vp_in (q1.1 + (3 : Int32)) L ∧ ((vp_in (q1.1 + (4 : Int32)) L ∧ (wp_X9_put q1.2.1 q1.2.2.1 q1.2.2.2.1 q1.2.2.2.2.1 q1.2.2.2.2.2.1 q1.2.2.2.2.2.2.1 q1.2.2.2.2.2.2.2.1 q1.2.2.2.2.2.2.2.2.1 q1.2.2.2.2.2.2.2.2.2.1 q1.2.2.2.2.2.2.2.2.2.2.1 (xs (q1.1 + (1 : Int32)).toNatClampNeg) (xs (q1.1 + (2 : Int32)).toNatClampNeg) (xs (q1.1 + (3 : Int32)).toNatClampNeg) (xs (q1.1 + (4 : Int32)).toNatClampNeg) (fun r34 u34 => (vp_in (q1.1 + (1 : Int32)) L ∧ ((vp_in (q1.1 + (2 : Int32)) L ∧ ((vp_in (q1.1 + (3 : Int32)) L ∧ ((vp_in (q1.1 + (4 : Int32)) L ∧ (wp_X10_put q1.2.2.2.2.2.2.2.2.2.2.2.1 q1.2.2.2.2.2.2.2.2.2.2.2.2 (xs (q1.1 + (1 : Int32)).toNatClampNeg) (xs (q1.1 + (2 : Int32)).toNatClampNeg) (xs (q1.1 + (3 : Int32)).toNatClampNeg) (xs (q1.1 + (4 : Int32)).toNatClampNeg) (fun r35 u35 => ((r34 = r35 → (∀ y37 : Int32, y37 = q1.1 + (5 : Int32) → (R18 (y37, u34.1, q1.2.2.1, u34.2.1, q1.2.2.2.2.1, q1.2.2.2.2.2.1, q1.2.2.2.2.2.2.1, u34.2.2, q1.2.2.2.2.2.2.2.2.1, q1.2.2.2.2.2.2.2.2.2.1, q1.2.2.2.2.2.2.2.2.2.2.1, u35, q1.2.2.2.2.2.2.2.2.2.2.2.2)))) ∧ (¬ r34 = r35 → (K (0 : Int32)))))))))))))))))))))))) ∧ (¬ (xs q1.1.toNatClampNeg &&& (31 : Int32)) = (6 : Int32) → (((xs q1.1.toNatClampNeg &&& (31 : Int32)) = (7 : Int32) → (wp_X9_graphs q1.2.1 q1.2.2.1 q1.2.2.2.1 q1.2.2.2.2.1 q1.2.2.2.2.2.1 q1.2.2.2.2.2.2.1 q1.2.2.2.2.2.2.2.1 q1.2.2.2.2.2.2.2.2.1 q1.2.2.2.2.2.2.2.2.2.1 q1.2.2.2.2.2.2.2.2.2.2.1 (fun r39 u39 => wp_X10_graphs q1.2.2.2.2.2.2.2.2.2.2.2.1 q1.2.2.2.2.2.2.2.2.2.2.2.2 (fun r40 u40 => ((r39 = r40 → (∀ y42 : Int32, y42 = q1.1 + (5 : Int32) → (R18 (y42, u39.1, q1.2.2.1, q1.2.2.2.1, q1.2.2.2.2.1, q1.2.2.2.2.2.1, u39.2, q1.2.2.2.2.2.2.2.1, q1.2.2.2.2.2.2.2.2.1, q1.2.2.2.2.2.2.2.2.2.1, q1.2.2.2.2.2.2.2.2.2.2.1, u40, q1.2.2.2.2.2.2.2.2.2.2.2.2)))) ∧ (¬ r39 = r40 → (K (0 : Int32)))))))) ∧ (¬ (xs q1.1.toNatClampNeg &&& (31 : Int32)) = (7 : Int32) → (((xs q1.1.toNatClampNeg &&& (31 : Int32)) = (8 : Int32) → ((vp_in (q1.1 + (1 : Int32)) L ∧ ((vp_in (q1.1 + (2 : Int32)) L ∧ (wp_X9_graph q1.2.1 q1.2.2.1 q1.2.2.2.1 q1.2.2.2.2.1 q1.2.2.2.2.2.1 q1.2.2.2.2.2.2.1 q1.2.2.2.2.2.2.2.1 q1.2.2.2.2.2.2.2.2.1 q1.2.2.2.2.2.2.2.2.2.1 q1.2.2.2.2.2.2.2.2.2.2.1 (xs (q1.1 + (1 : Int32)).toNatClampNeg) (xs (q1.1 + (2 : Int32)).toNatClampNeg) (fun r44 u44 => (vp_in (q1.1 + (1 : Int32)) L ∧ ((vp_in (q1.1 + (2 : Int32)) L ∧ (wp_X10_graph q1.2.2.2.2.2.2.2.2.2.2.2.1 q1.2.2.2.2.2.2.2.2.2.2.2.2 (xs (q1.1 + (1 : Int32)).toNatClampNeg) (xs (q1.1 + (2 : Int32)).toNatClampNeg) (fun r45 u45 => ((r44 = r45 → (∀ y47 : Int32, y47 = q1.1 + (5 : Int32) → (R18 (y47, u44.1, q1.2.2.1, q1.2.2.2.1, q1.2.2.2.2.1, q1.2.2.2.2.2.1, u44.2, q1.2.2.2.2.2.2.2.1, q1.2.2.2.2.2.2.2.2.1, q1.2.2.2.2.2.2.2.2.2.1, q1.2.2.2.2.2.2.2.2.2.2.1, u45, q1.2.2.2.2.2.2.2.2.2.2.2.2)))) ∧ (¬ r44 = r45 → (K (0 : Int32)))))))))))))))) ∧ (¬ (xs q1.1.toNatClampNeg &&& (31 : Int32)) = (8 : Int32) → (((xs q1.1.toNatClampNeg &&& (31 : Int32)) = (9 : Int32) → ((vp_in (q1.1 + (1 : Int32)) L ∧ ((vp_in (q1.1 + (2 : Int32)) L ∧ (wp_X9_together q1.2.1 q1.2.2.1 q1.2.2.2.1 q1.2.2.2.2.1 q1.2.2.2.2.2.1 q1.2.2.2.2.2.2.1 q1.2.2.2.2.2.2.2.1 q1.2.2.2.2.2.2.2.2.1 q1.2.2.2.2.2.2.2.2.2.1 q1.2.2.2.2.2.2.2.2.2.2.1 (xs (q1.1 + (1 : Int32)).toNatClampNeg) (xs (q1.1 + (2 : Int32)).toNatClampNeg) (fun r49 => (vp_in (q1.1 + (1 : Int32)) L ∧ ((vp_in (q1.1 + (2 : Int32)) L ∧ (wp_X10_together q1.2.2.2.2.2.2.2.2.2.2.2.1 q1.2.2.2.2.2.2.2.2.2.2.2.2 (xs (q1.1 + (1 : Int32)).toNatClampNeg) (xs (q1.1 + (2 : Int32)).toNatClampNeg) (fun r50 => ((r49 = r50 → (∀ y52 : Int32, y52 = q1.1 + (5 : Int32) → (R18 (y52, q1.2.1, q1.2.2.1, q1.2.2.2.1, q1.2.2.2.2.1, q1.2.2.2.2.2.1, q1.2.2.2.2.2.2.1, q1.2.2.2.2.2.2.2.1, q1.2.2.2.2.2.2.2.2.1, q1.2.2.2.2.2.2.2.2.2.1, q1.2.2.2.2.2.2.2.2.2.2.1, q1.2.2.2.2.2.2.2.2.2.2.2.1, q1.2.2.2.2.2.2.2.2.2.2.2.2)))) ∧ (¬ r49 = r50 → (K (0 : Int32)))))))))))))))) ∧ (¬ (xs q1.1.toNatClampNeg &&& (31 : Int32)) = (9 : Int32) → (((xs q1.1.toNatClampNeg &&& (31 : Int32)) = (10 : Int32) → ((vp_in (q1.1 + (1 : Int32)) L ∧ (wp_X9_ends q1.2.1 q1.2.2.1 q1.2.2.2.1 q1.2.2.2.2.1 q1.2.2.2.2.2.1 q1.2.2.2.2.2.2.1 q1.2.2.2.2.2.2.2.1 q1.2.2.2.2.2.2.2.2.1 q1.2.2.2.2.2.2.2.2.2.1 q1.2.2.2.2.2.2.2.2.2.2.1 (xs (q1.1 + (1 : Int32)).toNatClampNeg) (fun r54 u54 => (vp_in (q1.1 + (1 : Int32)) L ∧ (wp_X10_ends q1.2.2.2.2.2.2.2.2.2.2.2.1 q1.2.2.2.2.2.2.2.2.2.2.2.2 (xs (q1.1 + (1 : Int32)).toNatClampNeg) (fun r55 u55 => ((r54 = r55 → (∀ y57 : Int32, y57 = q1.1 + (5 : Int32) → (R18 (y57, u54.1, q1.2.2.1, q1.2.2.2.1, q1.2.2.2.2.1, q1.2.2.2.2.2.1, u54.2, q1.2.2.2.2.2.2.2.1, q1.2.2.2.2.2.2.2.2.1, q1.2.2.2.2.2.2.2.2.2.1, q1.2.2.2.2.2.2.2.2.2.2.1, u55, q1.2.2.2.2.2.2.2.2.2.2.2.2)))) ∧ (¬ r54 = r55 → (K (0 : Int32)))))))))))) ∧ (¬ (xs q1.1.toNatClampNeg &&& (31 : Int32)) = (10 : Int32) → (((xs q1.1.toNatClampNeg &&& (31 : Int32)) = (11 : Int32) → ((vp_in (q1.1 + (1 : Int32)) L ∧ (wp_X9_shortest q1.2.1 q1.2.2.1 q1.2.2.2.1 q1.2.2.2.2.1 q1.2.2.2.2.2.1 q1.2.2.2.2.2.2.1 q1.2.2.2.2.2.2.2.1 q1.2.2.2.2.2.2.2.2.1 q1.2.2.2.2.2.2.2.2.2.1 q1.2.2.2.2.2.2.2.2.2.2.1 (xs (q1.1 + (1 : Int32)).toNatClampNeg) (fun r59 u59 => (vp_in (q1.1 + (1 : Int32)) L ∧ (wp_X10_shortest q1.2.2.2.2.2.2.2.2.2.2.2.1 q1.2.2.2.2.2.2.2.2.2.2.2.2 (xs (q1.1 + (1 : Int32)).toNatClampNeg) (fun r60 u60 => ((r59 = r60 → (∀ y62 : Int32, y62 = q1.1 + (5 : Int32) → (R18 (y62, u59.1, q1.2.2.1, q1.2.2.2.1, q1.2.2.2.2.1, q1.2.2.2.2.2.1, u59.2, q1.2.2.2.2.2.2.2.1, q1.2.2.2.2.2.2.2.2.1, q1.2.2.2.2.2.2.2.2.2.1, q1.2.2.2.2.2.2.2.2.2.2.1, u60, q1.2.2.2.2.2.2.2.2.2.2.2.2)))) ∧ (¬ r59 = r60 → (K (0 : Int32)))))))))))) ∧ (¬ (xs q1.1.toNatClampNeg &&& (31 : Int32)) = (11 : Int32) → (((xs q1.1.toNatClampNeg &&& (31 : Int32)) = (12 : Int32) → ((vp_in (q1.1 + (1 : Int32)) L ∧ (wp_X9_go q1.2.1 q1.2.2.1 q1.2.2.2.1 q1.2.2.2.2.1 q1.2.2.2.2.2.1 q1.2.2.2.2.2.2.1 q1.2.2.2.2.2.2.2.1 q1.2.2.2.2.2.2.2.2.1 q1.2.2.2.2.2.2.2.2.2.1 q1.2.2.2.2.2.2.2.2.2.2.1 (xs (q1.1 + (1 : Int32)).toNatClampNeg) (fun r64 u64 => (vp_in (q1.1 + (1 : Int32)) L ∧ (wp_X10_go q1.2.2.2.2.2.2.2.2.2.2.2.1 q1.2.2.2.2.2.2.2.2.2.2.2.2 (xs (q1.1 + (1 : Int32)).toNatClampNeg) (fun r65 u65 => ((r64 = r65 → (∀ y67 : Int32, y67 = q1.1 + (5 : Int32) → (R18 (y67, q1.2.1, q1.2.2.1, q1.2.2.2.1, q1.2.2.2.2.1, u64, q1.2.2.2.2.2.2.1, q1.2.2.2.2.2.2.2.1, q1.2.2.2.2.2.2.2.2.1, q1.2.2.2.2.2.2.2.2.2.1, q1.2.2.2.2.2.2.2.2.2.2.1, u65, q1.2.2.2.2.2.2.2.2.2.2.2.2)))) ∧ (¬ r64 = r65 → (K (0 : Int32)))))))))))) ∧ (¬ (xs q1.1.toNatClampNeg &&& (31 : Int32)) = (12 : Int32) → (((xs q1.1.toNatClampNeg &&& (31 : Int32)) = (13 : Int32) → (wp_X9_anew q1.2.1 q1.2.2.1 q1.2.2.2.1 q1.2.2.2.2.1 q1.2.2.2.2.2.1 q1.2.2.2.2.2.2.1 q1.2.2.2.2.2.2.2.1 q1.2.2.2.2.2.2.2.2.1 q1.2.2.2.2.2.2.2.2.2.1 q1.2.2.2.2.2.2.2.2.2.2.1 (fun r69 u69 => wp_X10_anew q1.2.2.2.2.2.2.2.2.2.2.2.1 q1.2.2.2.2.2.2.2.2.2.2.2.2 (fun r70 u70 => ((r69 = r70 → (∀ y72 : Int32, y72 = q1.1 + (5 : Int32) → (R18 (y72, q1.2.1, q1.2.2.1, q1.2.2.2.1, q1.2.2.2.2.1, u69, q1.2.2.2.2.2.2.1, q1.2.2.2.2.2.2.2.1, q1.2.2.2.2.2.2.2.2.1, q1.2.2.2.2.2.2.2.2.2.1, q1.2.2.2.2.2.2.2.2.2.2.1, u70, q1.2.2.2.2.2.2.2.2.2.2.2.2)))) ∧ (¬ r69 = r70 → (K (0 : Int32)))))))) ∧ (¬ (xs q1.1.toNatClampNeg &&& (31 : Int32)) = (13 : Int32) → (((xs q1.1.toNatClampNeg &&& (31 : Int32)) = (14 : Int32) → ((vp_in (q1.1 + (1 : Int32)) L ∧ (wp_X9_trip q1.2.1 q1.2.2.1 q1.2.2.2.1 q1.2.2.2.2.1 q1.2.2.2.2.2.1 q1.2.2.2.2.2.2.1 q1.2.2.2.2.2.2.2.1 q1.2.2.2.2.2.2.2.2.1 q1.2.2.2.2.2.2.2.2.2.1 q1.2.2.2.2.2.2.2.2.2.2.1 (xs (q1.1 + (1 : Int32)).toNatClampNeg) (fun r74 => (vp_in (q1.1 + (1 : Int32)) L ∧ (wp_X10_trip q1.2.2.2.2.2.2.2.2.2.2.2.1 q1.2.2.2.2.2.2.2.2.2.2.2.2 (xs (q1.1 + (1 : Int32)).toNatClampNeg) (fun r75 => ((r74 = r75 → (∀ y77 : Int32, y77 = q1.1 + (5 : Int32) → (R18 (y77, q1.2.1, q1.2.2.1, q1.2.2.2.1, q1.2.2.2.2.1, q1.2.2.2.2.2.1, q1.2.2.2.2.2.2.1, q1.2.2.2.2.2.2.2.1, q1.2.2.2.2.2.2.2.2.1, q1.2.2.2.2.2.2.2.2.2.1, q1.2.2.2.2.2.2.2.2.2.2.1, q1.2.2.2.2.2.2.2.2.2.2.2.1, q1.2.2.2.2.2.2.2.2.2.2.2.2)))) ∧ (¬ r74 = r75 → (K (0 : Int32)))))))))))) ∧ (¬ (xs q1.1.toNatClampNeg &&& (31 : Int32)) = (14 : Int32) → (((xs q1.1.toNatClampNeg &&& (31 : Int32)) = (15 : Int32) → ((vp_in (q1.1 + (1 : Int32)) L ∧ (wp_X9_slow q1.2.1 q1.2.2.1 q1.2.2.2.1 q1.2.2.2.2.1 q1.2.2.2.2.2.1 q1.2.2.2.2.2.2.1 q1.2.2.2.2.2.2.2.1 q1.2.2.2.2.2.2.2.2.1 q1.2.2.2.2.2.2.2.2.2.1 q1.2.2.2.2.2.2.2.2.2.2.1 (xs (q1.1 + (1 : Int32)).toNatClampNeg) (fun r79 u79 => (vp_in (q1.1 + (1 : Int32)) L ∧ (wp_X10_slow q1.2.2.2.2.2.2.2.2.2.2.2.1 q1.2.2.2.2.2.2.2.2.2.2.2.2 (xs (q1.1 + (1 : Int32)).toNatClampNeg) (fun r80 u80 => ((r79 = r80 → (∀ y82 : Int32, y82 = q1.1 + (5 : Int32) → (R18 (y82, u79.1, q1.2.2.1, q1.2.2.2.1, q1.2.2.2.2.1, q1.2.2.2.2.2.1, u79.2, q1.2.2.2.2.2.2.2.1, q1.2.2.2.2.2.2.2.2.1, q1.2.2.2.2.2.2.2.2.2.1, q1.2.2.2.2.2.2.2.2.2.2.1, u80, q1.2.2.2.2.2.2.2.2.2.2.2.2)))) ∧ (¬ r79 = r80 → (K (0 : Int32)))))))))))) ∧ (¬ (xs q1.1.toNatClampNeg &&& (31 : Int32)) = (15 : Int32) → (((xs q1.1.toNatClampNeg &&& (31 : Int32)) = (16 : Int32) → ((vp_in (q1.1 + (1 : Int32)) L ∧ (wp_X9_mended q1.2.1 q1.2.2.1 q1.2.2.2.1 q1.2.2.2.2.1 q1.2.2.2.2.2.1 q1.2.2.2.2.2.2.1 q1.2.2.2.2.2.2.2.1 q1.2.2.2.2.2.2.2.2.1 q1.2.2.2.2.2.2.2.2.2.1 q1.2.2.2.2.2.2.2.2.2.2.1 (xs (q1.1 + (1 : Int32)).toNatClampNeg) (fun r84 u84 => (vp_in (q1.1 + (1 : Int32)) L ∧ (wp_X10_mended q1.2.2.2.2.2.2.2.2.2.2.2.1 q1.2.2.2.2.2.2.2.2.2.2.2.2 (xs (q1.1 + (1 : Int32)).toNatClampNeg) (fun r85 u85 => ((r84 = r85 → (∀ y87 : Int32, y87 = q1.1 + (5 : Int32) → (R18 (y87, u84.1, q1.2.2.1, q1.2.2.2.1, q1.2.2.2.2.1, q1.2.2.2.2.2.1, u84.2.1, u84.2.2.1, u84.2.2.2, q1.2.2.2.2.2.2.2.2.2.1, q1.2.2.2.2.2.2.2.2.2.2.1, u85, q1.2.2.2.2.2.2.2.2.2.2.2.2)))) ∧ (¬ r84 = r85 → (K (0 : Int32)))))))))))) ∧ (¬ (xs q1.1.toNatClampNeg &&& (31 : Int32)) = (16 : Int32) → (((xs q1.1.toNatClampNeg &&& (31 : Int32)) = (17 : Int32) → ((vp_in (q1.1 + (1 : Int32)) L ∧ (wp_X9_needed q1.2.1 q1.2.2.1 q1.2.2.2.1 q1.2.2.2.2.1 q1.2.2.2.2.2.1 q1.2.2.2.2.2.2.1 q1.2.2.2.2.2.2.2.1 q1.2.2.2.2.2.2.2.2.1 q1.2.2.2.2.2.2.2.2.2.1 q1.2.2.2.2.2.2.2.2.2.2.1 (xs (q1.1 + (1 : Int32)).toNatClampNeg) (fun r89 u89 => (vp_in (q1.1 + (1 : Int32)) L ∧ (wp_X10_needed q1.2.2.2.2.2.2.2.2.2.2.2.1 q1.2.2.2.2.2.2.2.2.2.2.2.2 (xs (q1.1 + (1 : Int32)).toNatClampNeg) (fun r90 u90 => ((r89 = r90 → (∀ y92 : Int32, y92 = q1.1 + (5 : Int32) → (R18 (y92, u89.1, q1.2.2.1, u89.2.1, q1.2.2.2.2.1, q1.2.2.2.2.2.1, u89.2.2.1, u89.2.2.2.1, u89.2.2.2.2, q1.2.2.2.2.2.2.2.2.2.1, q1.2.2.2.2.2.2.2.2.2.2.1, u90, q1.2.2.2.2.2.2.2.2.2.2.2.2)))) ∧ (¬ r89 = r90 → (K (0 : Int32)))))))))))) ∧ (¬ (xs q1.1.toNatClampNeg &&& (31 : Int32)) = (17 : Int32) → (((xs q1.1.toNatClampNeg &&& (31 : Int32)) = (18 : Int32) → ((vp_in (q1.1 + (1 : Int32)) L ∧ (wp_X9_most q1.2.1 q1.2.2.1 q1.2.2.2.1 q1.2.2.2.2.1 q1.2.2.2.2.2.1 q1.2.2.2.2.2.2.1 q1.2.2.2.2.2.2.2.1 q1.2.2.2.2.2.2.2.2.1 q1.2.2.2.2.2.2.2.2.2.1 q1.2.2.2.2.2.2.2.2.2.2.1 (xs (q1.1 + (1 : Int32)).toNatClampNeg) (fun r94 u94 => (vp_in (q1.1 + (1 : Int32)) L ∧ (wp_X10_most q1.2.2.2.2.2.2.2.2.2.2.2.1 q1.2.2.2.2.2.2.2.2.2.2.2.2 (xs (q1.1 + (1 : Int32)).toNatClampNeg) (fun r95 u95 => ((r94 = r95 → (∀ y97 : Int32, y97 = q1.1 + (5 : Int32) → (R18 (y97, q1.2.1, q1.2.2.1, q1.2.2.2.1, q1.2.2.2.2.1, q1.2.2.2.2.2.1, q1.2.2.2.2.2.2.1, q1.2.2.2.2.2.2.2.1, q1.2.2.2.2.2.2.2.2.1, u94, q1.2.2.2.2.2.2.2.2.2.2.1, u95, q1.2.2.2.2.2.2.2.2.2.2.2.2)))) ∧ (¬ r94 = r95 → (K (0 : Int32)))))))))))) ∧ (¬ (xs q1.1.toNatClampNeg &&& (31 : Int32)) = (18 : Int32) → (((xs q1.1.toNatClampNeg &&& (31 : Int32)) = (19 : Int32) → ((vp_in (q1.1 + (1 : Int32)) L ∧ ((vp_in (q1.1 + (2 : Int32)) L ∧ ((vp_in (q1.1 + (3 : Int32)) L ∧ ((vp_in (q1.1 + (4 : Int32)) L ∧ (wp_X9_longest q1.2.1 q1.2.2.1 q1.2.2.2.1 q1.2.2.2.2.1 q1.2.2.2.2.2.1 q1.2.2.2.2.2.2.1 q1.2.2.2.2.2.2.2.1 q1.2.2.2.2.2.2.2.2.1 q1.2.2.2.2.2.2.2.2.2.1 q1.2.2.2.2.2.2.2.2.2.2.1 (xs (q1.1 + (1 : Int32)).toNatClampNeg) (xs (q1.1 + (2 : Int32)).toNatClampNeg) (xs (q1.1 + (3 : Int32)).toNatClampNeg) (xs (q1.1 + (4 : Int32)).toNatClampNeg) (fun r99 u99 => (vp_in (q1.1 + (1 : Int32)) L ∧ ((vp_in (q1.1 + (2 : Int32)) L ∧ ((vp_in (q1.1 + (3 : Int32)) L ∧ ((vp_in (q1.1 + (4 : Int32)) L ∧ (wp_X10_longest q1.2.2.2.2.2.2.2.2.2.2.2.1 q1.2.2.2.2.2.2.2.2.2.2.2.2 (xs (q1.1 + (1 : Int32)).toNatClampNeg) (xs (q1.1 + (2 : Int32)).toNatClampNeg) (xs (q1.1 + (3 : Int32)).toNatClampNeg) (xs (q1.1 + (4 : Int32)).toNatClampNeg) (fun r100 u100 => ((r99 = r100 → (∀ y102 : Int32, y102 = q1.1 + (5 : Int32) → (R18 (y102, q1.2.1, q1.2.2.1, q1.2.2.2.1, q1.2.2.2.2.1, q1.2.2.2.2.2.1, q1.2.2.2.2.2.2.1, q1.2.2.2.2.2.2.2.1, q1.2.2.2.2.2.2.2.2.1, u99, q1.2.2.2.2.2.2.2.2.2.2.1, u100, q1.2.2.2.2.2.2.2.2.2.2.2.2)))) ∧ (¬ r99 = r100 → (K (0 : Int32)))))))))))))))))))))))) ∧ (¬ (xs q1.1.toNatClampNeg &&& (31 : Int32)) = (19 : Int32) → (((xs q1.1.toNatClampNeg &&& (31 : Int32)) = (20 : Int32) → ((vp_in (q1.1 + (1 : Int32)) L ∧ ((vp_in (q1.1 + (2 : Int32)) L ∧ ((vp_in (q1.1 + (3 : Int32)) L ∧ ((vp_in (q1.1 + (4 : Int32)) L ∧ (wp_X9_next q1.2.1 q1.2.2.1 q1.2.2.2.1 q1.2.2.2.2.1 q1.2.2.2.2.2.1 q1.2.2.2.2.2.2.1 q1.2.2.2.2.2.2.2.1 q1.2.2.2.2.2.2.2.2.1 q1.2.2.2.2.2.2.2.2.2.1 q1.2.2.2.2.2.2.2.2.2.2.1 (xs (q1.1 + (1 : Int32)).toNatClampNeg) (xs (q1.1 + (2 : Int32)).toNatClampNeg) (xs (q1.1 + (3 : Int32)).toNatClampNeg) (xs (q1.1 + (4 : Int32)).toNatClampNeg) (fun r104 u104 => (vp_in (q1.1 + (1 : Int32)) L ∧ ((vp_in (q1.1 + (2 : Int32)) L ∧ ((vp_in (q1.1 + (3 : Int32)) L ∧ ((vp_in (q1.1 + (4 : Int32)) L ∧ (wp_X10_next q1.2.2.2.2.2.2.2.2.2.2.2.1 q1.2.2.2.2.2.2.2.2.2.2.2.2 (xs (q1.1 + (1 : Int32)).toNatClampNeg) (xs (q1.1 + (2 : Int32)).toNatClampNeg) (xs (q1.1 + (3 : Int32)).toNatClampNeg) (xs (q1.1 + (4 : Int32)).toNatClampNeg) (fun r105 => ((r104 = r105 → (∀ y107 : Int32, y107 = q1.1 + (5 : Int32) → (R18 (y107, q1.2.1, q1.2.2.1, q1.2.2.2.1, q1.2.2.2.2.1, q1.2.2.2.2.2.1, q1.2.2.2.2.2.2.1, q1.2.2.2.2.2.2.2.1, q1.2.2.2.2.2.2.2.2.1, u104, q1.2.2.2.2.2.2.2.2.2.2.1, q1.2.2.2.2.2.2.2.2.2.2.2.1, q1.2.2.2.2.2.2.2.2.2.2.2.2)))) ∧ (¬ r104 = r105 → (K (0 : Int32)))))))))))))))))))))))) ∧ (¬ (xs q1.1.toNatClampNeg &&& (31 : Int32)) = (20 : Int32) → (((xs q1.1.toNatClampNeg &&& (31 : Int32)) = (21 : Int32) → ((vp_in (q1.1 + (1 : Int32)) L ∧ ((vp_in (q1.1 + (2 : Int32)) L ∧ (wp_X9_weight q1.2.1 q1.2.2.1 q1.2.2.2.1 q1.2.2.2.2.1 q1.2.2.2.2.2.1 q1.2.2.2.2.2.2.1 q1.2.2.2.2.2.2.2.1 q1.2.2.2.2.2.2.2.2.1 q1.2.2.2.2.2.2.2.2.2.1 q1.2.2.2.2.2.2.2.2.2.2.1 (xs (q1.1 + (1 : Int32)).toNatClampNeg) (xs (q1.1 + (2 : Int32)).toNatClampNeg) (fun r109 u109 => (vp_in (q1.1 + (1 : Int32)) L ∧ ((vp_in (q1.1 + (2 : Int32)) L ∧ (wp_X10_weight q1.2.2.2.2.2.2.2.2.2.2.2.1 q1.2.2.2.2.2.2.2.2.2.2.2.2 (xs (q1.1 + (1 : Int32)).toNatClampNeg) (xs (q1.1 + (2 : Int32)).toNatClampNeg) (fun r110 u110 => ((r109 = r110 → (∀ y112 : Int32, y112 = q1.1 + (5 : Int32) → (R18 (y112, q1.2.1, q1.2.2.1, q1.2.2.2.1, q1.2.2.2.2.1, q1.2.2.2.2.2.1, q1.2.2.2.2.2.2.1, q1.2.2.2.2.2.2.2.1, q1.2.2.2.2.2.2.2.2.1, q1.2.2.2.2.2.2.2.2.2.1, u109, q1.2.2.2.2.2.2.2.2.2.2.2.1, u110)))) ∧ (¬ r109 = r110 → (K (0 : Int32)))))))))))))))) ∧ (¬ (xs q1.1.toNatClampNeg &&& (31 : Int32)) = (21 : Int32) → (((xs q1.1.toNatClampNeg &&& (31 : Int32)) = (22 : Int32) → ((vp_in (q1.1 + (1 : Int32)) L ∧ (wp_X9_count q1.2.1 q1.2.2.1 q1.2.2.2.1 q1.2.2.2.2.1 q1.2.2.2.2.2.1 q1.2.2.2.2.2.2.1 q1.2.2.2.2.2.2.2.1 q1.2.2.2.2.2.2.2.2.1 q1.2.2.2.2.2.2.2.2.2.1 q1.2.2.2.2.2.2.2.2.2.2.1 (xs (q1.1 + (1 : Int32)).toNatClampNeg) (fun r114 => (vp_in (q1.1 + (1 : Int32)) L ∧ (wp_X10_count q1.2.2.2.2.2.2.2.2.2.2.2.1 q1.2.2.2.2.2.2.2.2.2.2.2.2 (xs (q1.1 + (1 : Int32)).toNatClampNeg) (fun r115 => ((r114 = r115 → (∀ y117 : Int32, y117 = q1.1 + (5 : Int32) → (R18 (y117, q1.2.1, q1.2.2.1, q1.2.2.2.1, q1.2.2.2.2.1, q1.2.2.2.2.2.1, q1.2.2.2.2.2.2.1, q1.2.2.2.2.2.2.2.1, q1.2.2.2.2.2.2.2.2.1, q1.2.2.2.2.2.2.2.2.2.1, q1.2.2.2.2.2.2.2.2.2.2.1, q1.2.2.2.2.2.2.2.2.2.2.2.1, q1.2.2.2.2.2.2.2.2.2.2.2.2)))) ∧ (¬ r114 = r115 → (K (0 : Int32)))))))))))) ∧ (¬ (xs q1.1.toNatClampNeg &&& (31 : Int32)) = (22 : Int32) → (((xs q1.1.toNatClampNeg &&& (31 : Int32)) = (23 : Int32) → (wp_X9_trace q1.2.1 q1.2.2.1 q1.2.2.2.1 q1.2.2.2.2.1 q1.2.2.2.2.2.1 q1.2.2.2.2.2.2.1 q1.2.2.2.2.2.2.2.1 q1.2.2.2.2.2.2.2.2.1 q1.2.2.2.2.2.2.2.2.2.1 q1.2.2.2.2.2.2.2.2.2.2.1 (fun r119 => wp_X10_trace q1.2.2.2.2.2.2.2.2.2.2.2.1 q1.2.2.2.2.2.2.2.2.2.2.2.2 (fun r120 => ((lg_cmp r119 r120 = 0 → (∀ y122 : Int32, y122 = q1.1 + (5 : Int32) → (R18 (y122, q1.2.1, q1.2.2.1, q1.2.2.2.1, q1.2.2.2.2.1, q1.2.2.2.2.2.1, q1.2.2.2.2.2.2.1, q1.2.2.2.2.2.2.2.1, q1.2.2.2.2.2.2.2.2.1, q1.2.2.2.2.2.2.2.2.2.1, q1.2.2.2.2.2.2.2.2.2.2.1, q1.2.2.2.2.2.2.2.2.2.2.2.1, q1.2.2.2.2.2.2.2.2.2.2.2.2)))) ∧ (¬ lg_cmp r119 r120 = 0 → (K (0 : Int32)))))))) ∧ (¬ (xs q1.1.toNatClampNeg &&& (31 : Int32)) = (23 : Int32) → (∀ y123 : Int32, y123 = q1.1 + (5 : Int32) → (R18 (y123, q1.2.1, q1.2.2.1, q1.2.2.2.1, q1.2.2.2.2.1, q1.2.2.2.2.2.1, q1.2.2.2.2.2.2.1, q1.2.2.2.2.2.2.2.1, q1.2.2.2.2.2.2.2.2.1, q1.2.2.2.2.2.2.2.2.2.1, q1.2.2.2.2.2.2.2.2.2.2.1, q1.2.2.2.2.2.2.2.2.2.2.2.1, q1.2.2.2.2.2.2.2.2.2.2.2.2))))))))))))))))))))))))))))))))))))))))))))))))))))))))
set_option maxHeartbeats 4000000 in
set_option maxRecDepth 100000 in
theorem w_L_law_18 {x : CT} {aX aT aB aD aR aK aM aJ aV aW aS : Nat → Nat} {b : Nat} {xs : Nat → Int32} {L : Nat} {K : Int32 → Prop} (C : Cx x cL_law tb_L_law 4 RL (Cond.initialized RX9 :: wsL_law) room_1) (rt : RetLaw x b L xs K)  {q1 : Int32 × St × St × St × St × St × St × St × St × St × Int64 × St × Int64} (h : Lp (F_L_law_18 xs L K) q1) : Wx x 4 62 650583 (fl [wdX (xk x) aX aT aB aD aR aK aM aV aW q1.2.1, wdT (xk x) aT q1.2.2.1, wdB (xk x) aB q1.2.2.2.1, wdB (xk x) aD q1.2.2.2.2.1, wdR (xk x) aR q1.2.2.2.2.2.1, wdK (xk x) aK q1.2.2.2.2.2.2.1, wdM (xk x) aM aJ q1.2.2.2.2.2.2.2.1, wdK (xk x) aJ q1.2.2.2.2.2.2.2.2.1, wdV (xk x) aV q1.2.2.2.2.2.2.2.2.2.1, wdW (xk x) aW q1.2.2.2.2.2.2.2.2.2.2.1, wdS (xk x) aS q1.2.2.2.2.2.2.2.2.2.2.2.1 q1.2.2.2.2.2.2.2.2.2.2.2.2]) [(0, .ref b), (1, .ref (aX 0)), (2, .ref (aS 0)), (3, .int q1.1)] 18 [] := by
  refine lp_walk (P := fun q1 => Wx x 4 62 650583 (fl [wdX (xk x) aX aT aB aD aR aK aM aV aW q1.2.1, wdT (xk x) aT q1.2.2.1, wdB (xk x) aB q1.2.2.2.1, wdB (xk x) aD q1.2.2.2.2.1, wdR (xk x) aR q1.2.2.2.2.2.1, wdK (xk x) aK q1.2.2.2.2.2.2.1, wdM (xk x) aM aJ q1.2.2.2.2.2.2.2.1, wdK (xk x) aJ q1.2.2.2.2.2.2.2.2.1, wdV (xk x) aV q1.2.2.2.2.2.2.2.2.2.1, wdW (xk x) aW q1.2.2.2.2.2.2.2.2.2.2.1, wdS (xk x) aS q1.2.2.2.2.2.2.2.2.2.2.2.1 q1.2.2.2.2.2.2.2.2.2.2.2.2]) [(0, .ref b), (1, .ref (aX 0)), (2, .ref (aS 0)), (3, .int q1.1)] 18 []) (fun q1 R18 hR18 h => ?_) h
  refine x_iload_n C 10 18 rfl 3 rfl rfl ?_
  refine x_aload_n C 11 19 rfl 0 rfl rfl ?_
  refine x_slenL C 12 20 rt rfl ?_
  refine x_iconst (v := (5 : Int32)) C 13 21 rfl (by decide) ?_
  refine x_isub C 14 22 rfl ?_
  refine x_icmp_gt C 15 23 843 rfl rfl (fun c2 => ?_) (fun c2 => ?_)
  · replace h := h.1 c2
    refine x_iconst (v := (1 : Int32)) C 567 843 rfl (by decide) ?_
    exact x_lawret C rt 568 844 rfl ⟨by decide, by decide⟩ h
  · replace h := h.2 c2
    refine x_aload_n C 16 26 rfl 0 rfl rfl ?_
    refine x_iload_n C 17 27 rfl 3 rfl rfl ?_
    obtain ⟨hi, h⟩ := h
    refine x_sldL C 18 28 rt rfl hi ?_
    refine x_bipush (v := (31 : Int32)) C 19 29 rfl (by decide) ?_
    refine x_iand C 20 31 rfl ?_
    by_cases c3 : (xs q1.1.toNatClampNeg &&& (31 : Int32)) = (0 : Int32)
    · replace h := h.1 c3
      refine x_tabIn C 21 32 144 0 rfl (0 : Int32) c3 (by decide) (by decide) rfl rfl ?_
      refine x_aload_n C 22 144 rfl 1 rfl rfl ?_
      refine x_aload_n C 23 145 rfl 0 rfl rfl ?_
      refine x_iload_n C 24 146 rfl 3 rfl rfl ?_
      refine x_iconst (v := (1 : Int32)) C 25 147 rfl (by decide) ?_
      refine x_iadd C 26 148 rfl ?_
      obtain ⟨hi, h⟩ := h
      refine x_sldL C 27 149 rt rfl hi ?_
      refine x_i2l C 28 150 rfl ?_
      refine x_bipush (v := (32 : Int32)) C 29 151 rfl (by decide) ?_
      refine x_lshl C 30 153 rfl ?_
      refine x_aload_n C 31 154 rfl 0 rfl rfl ?_
      refine x_iload_n C 32 155 rfl 3 rfl rfl ?_
      refine x_iconst (v := (2 : Int32)) C 33 156 rfl (by decide) ?_
      refine x_iadd C 34 157 rfl ?_
      obtain ⟨hi, h⟩ := h
      refine x_sldL C 35 158 rt rfl hi ?_
      refine x_i2l C 36 159 rfl ?_
      refine x_ldc2 (v := (4294967295 : Int64)) C 37 160 rfl (mc wq_1_6) ?_
      refine x_land C 38 163 rfl ?_
      refine x_lor C 39 164 rfl ?_
      refine x_aload_n C 40 165 rfl 0 rfl rfl ?_
      refine x_iload_n C 41 166 rfl 3 rfl rfl ?_
      refine x_iconst (v := (3 : Int32)) C 42 167 rfl (by decide) ?_
      refine x_iadd C 43 168 rfl ?_
      obtain ⟨hi, h⟩ := h
      refine x_sldL C 44 169 rt rfl hi ?_
      refine x_callGVI (ci := 7) (q0 := 0) (q := (RX9, TX9, 9)) C 45 170 (c_X9_type (xl x) (xD x) (xk x) (xg x) aX aT aB aD aR aK aM aJ aV aW q1.2.1 q1.2.2.1 q1.2.2.2.1 q1.2.2.2.2.1 q1.2.2.2.2.2.1 q1.2.2.2.2.2.2.1 q1.2.2.2.2.2.2.2.1 q1.2.2.2.2.2.2.2.2.1 q1.2.2.2.2.2.2.2.2.2.1 q1.2.2.2.2.2.2.2.2.2.2.1 (((xs (q1.1 + (1 : Int32)).toNatClampNeg).toInt64 <<< ((32 : Int32).toInt64 &&& 63)) ||| ((xs (q1.1 + (2 : Int32)).toNatClampNeg).toInt64 &&& (4294967295 : Int64))) (xs (q1.1 + (3 : Int32)).toNatClampNeg) _ h) rfl wwGood (mem4 wq_6_3 wq_6_4 wq_6_5 wq_1_2) wq_6_6 2 ok_X9_type rfl ⟨by decide, by decide⟩ (Nat.le_of_ble_eq_true rfl) ⟨by decide, by decide⟩ ⟨rfl, rfl⟩ rfl rfl [wdS (xk x) aS q1.2.2.2.2.2.2.2.2.2.2.2.1 q1.2.2.2.2.2.2.2.2.2.2.2.2] (fun (u : St) => [wdX (xk x) aX aT aB aD aR aK aM aV aW q1.2.1, wdT (xk x) aT u, wdB (xk x) aB q1.2.2.2.1, wdB (xk x) aD q1.2.2.2.2.1, wdR (xk x) aR q1.2.2.2.2.2.1, wdK (xk x) aK q1.2.2.2.2.2.2.1, wdM (xk x) aM aJ q1.2.2.2.2.2.2.2.1, wdK (xk x) aJ q1.2.2.2.2.2.2.2.2.1, wdV (xk x) aV q1.2.2.2.2.2.2.2.2.2.1, wdW (xk x) aW q1.2.2.2.2.2.2.2.2.2.2.1, wdS (xk x) aS q1.2.2.2.2.2.2.2.2.2.2.2.1 q1.2.2.2.2.2.2.2.2.2.2.2.2]) [10, 0, 1, 2, 3, 4, 5, 6, 7, 8, 9] [1, 2, 3, 4, 5, 6, 7, 8, 9, 10, 0] (show List.Perm [10, 0, 1, 2, 3, 4, 5, 6, 7, 8, 9] (List.range 11) by decide) rfl 11 (fun _ => rfl) (by decide) (fun _ => rfl) (fun r4 u4 h => ?_)
      refine x_aload_n C 46 173 rfl 2 rfl rfl ?_
      refine x_aload_n C 47 174 rfl 0 rfl rfl ?_
      refine x_iload_n C 48 175 rfl 3 rfl rfl ?_
      refine x_iconst (v := (1 : Int32)) C 49 176 rfl (by decide) ?_
      refine x_iadd C 50 177 rfl ?_
      obtain ⟨hi, h⟩ := h
      refine x_sldL C 51 178 rt rfl hi ?_
      refine x_i2l C 52 179 rfl ?_
      refine x_bipush (v := (32 : Int32)) C 53 180 rfl (by decide) ?_
      refine x_lshl C 54 182 rfl ?_
      refine x_aload_n C 55 183 rfl 0 rfl rfl ?_
      refine x_iload_n C 56 184 rfl 3 rfl rfl ?_
      refine x_iconst (v := (2 : Int32)) C 57 185 rfl (by decide) ?_
      refine x_iadd C 58 186 rfl ?_
      obtain ⟨hi, h⟩ := h
      refine x_sldL C 59 187 rt rfl hi ?_
      refine x_i2l C 60 188 rfl ?_
      refine x_ldc2 (v := (4294967295 : Int64)) C 61 189 rfl (mc wq_1_6) ?_
      refine x_land C 62 192 rfl ?_
      refine x_lor C 63 193 rfl ?_
      refine x_aload_n C 64 194 rfl 0 rfl rfl ?_
      refine x_iload_n C 65 195 rfl 3 rfl rfl ?_
      refine x_iconst (v := (3 : Int32)) C 66 196 rfl (by decide) ?_
      refine x_iadd C 67 197 rfl ?_
      obtain ⟨hi, h⟩ := h
      refine x_sldL C 68 198 rt rfl hi ?_
      refine x_callGVI (ci := 8) (q0 := 0) (q := (RX10, TX10, 34)) C 69 199 (c_X10_type (xl x) (xD x) (xk x) (xg x) aS q1.2.2.2.2.2.2.2.2.2.2.2.1 q1.2.2.2.2.2.2.2.2.2.2.2.2 (((xs (q1.1 + (1 : Int32)).toNatClampNeg).toInt64 <<< ((32 : Int32).toInt64 &&& 63)) ||| ((xs (q1.1 + (2 : Int32)).toNatClampNeg).toInt64 &&& (4294967295 : Int64))) (xs (q1.1 + (3 : Int32)).toNatClampNeg) _ h) rfl wwGood (mem4 wq_6_14 wq_6_15 wq_6_16 wq_1_5) wq_6_17 2 ok_X10_type rfl ⟨by decide, by decide⟩ (Nat.le_of_ble_eq_true rfl) ⟨by decide, by decide⟩ ⟨rfl, rfl⟩ rfl rfl [wdX (xk x) aX aT aB aD aR aK aM aV aW q1.2.1, wdT (xk x) aT u4, wdB (xk x) aB q1.2.2.2.1, wdB (xk x) aD q1.2.2.2.2.1, wdR (xk x) aR q1.2.2.2.2.2.1, wdK (xk x) aK q1.2.2.2.2.2.2.1, wdM (xk x) aM aJ q1.2.2.2.2.2.2.2.1, wdK (xk x) aJ q1.2.2.2.2.2.2.2.2.1, wdV (xk x) aV q1.2.2.2.2.2.2.2.2.2.1, wdW (xk x) aW q1.2.2.2.2.2.2.2.2.2.2.1] (fun (u : St) => [wdX (xk x) aX aT aB aD aR aK aM aV aW q1.2.1, wdT (xk x) aT u4, wdB (xk x) aB q1.2.2.2.1, wdB (xk x) aD q1.2.2.2.2.1, wdR (xk x) aR q1.2.2.2.2.2.1, wdK (xk x) aK q1.2.2.2.2.2.2.1, wdM (xk x) aM aJ q1.2.2.2.2.2.2.2.1, wdK (xk x) aJ q1.2.2.2.2.2.2.2.2.1, wdV (xk x) aV q1.2.2.2.2.2.2.2.2.2.1, wdW (xk x) aW q1.2.2.2.2.2.2.2.2.2.2.1, wdS (xk x) aS u q1.2.2.2.2.2.2.2.2.2.2.2.2]) [0, 1, 2, 3, 4, 5, 6, 7, 8, 9, 10] [0, 1, 2, 3, 4, 5, 6, 7, 8, 9, 10] (show List.Perm [0, 1, 2, 3, 4, 5, 6, 7, 8, 9, 10] (List.range 11) by decide) rfl 11 (fun _ => rfl) (by decide) (fun _ => rfl) (fun r5 u5 h => ?_)
      refine x_icmp_eq C 70 202 837 rfl rfl (fun c6 => ?_) (fun c6 => ?_)
      · replace h := h.1 c6
        obtain ⟨y7, ey7⟩ : ∃ y : Int32, y = q1.1 + (5 : Int32) := ⟨_, rfl⟩
        replace h := h y7 ey7
        refine x_iinc (v := y7) (lv' := [(0, .ref b), (1, .ref (aX 0)), (2, .ref (aS 0)), (3, .int y7)]) C 565 837 rfl 3 rfl (by rw [ey7]; rfl) (by decide) [1, 2, 3, 0] rfl ?_
        refine x_goto C 566 840 18 rfl rfl ?_
        exact x_sub [0, 1, 2, 3] rfl (hR18 (y7, q1.2.1, u4, q1.2.2.2.1, q1.2.2.2.2.1, q1.2.2.2.2.2.1, q1.2.2.2.2.2.2.1, q1.2.2.2.2.2.2.2.1, q1.2.2.2.2.2.2.2.2.1, q1.2.2.2.2.2.2.2.2.2.1, q1.2.2.2.2.2.2.2.2.2.2.1, u5, q1.2.2.2.2.2.2.2.2.2.2.2.2) h)
      · replace h := h.2 c6
        refine x_iconst (v := (0 : Int32)) C 71 205 rfl (by decide) ?_
        exact x_lawret C rt 72 206 rfl ⟨by decide, by decide⟩ h
    · replace h := h.2 c3
      by_cases c8 : (xs q1.1.toNatClampNeg &&& (31 : Int32)) = (1 : Int32)
      · replace h := h.1 c8
        refine x_tabIn C 21 32 207 1 rfl (1 : Int32) c8 (by decide) (by decide) rfl rfl ?_
        refine x_aload_n C 73 207 rfl 1 rfl rfl ?_
        refine x_callGVI (ci := 7) (q0 := 0) (q := (RX9, TX9, 9)) C 74 208 (c_X9_clear (xl x) (xD x) (xk x) (xg x) aX aT aB aD aR aK aM aJ aV aW q1.2.1 q1.2.2.1 q1.2.2.2.1 q1.2.2.2.2.1 q1.2.2.2.2.2.1 q1.2.2.2.2.2.2.1 q1.2.2.2.2.2.2.2.1 q1.2.2.2.2.2.2.2.2.1 q1.2.2.2.2.2.2.2.2.2.1 q1.2.2.2.2.2.2.2.2.2.2.1 _ h) rfl wwGood (mem4 wq_7_0 wq_7_1 wq_7_2 wq_1_2) wq_7_3 0 ok_X9_clear rfl ⟨by decide, by decide⟩ (Nat.le_of_ble_eq_true rfl) ⟨by decide, by decide⟩ ⟨rfl, rfl⟩ rfl rfl [wdS (xk x) aS q1.2.2.2.2.2.2.2.2.2.2.2.1 q1.2.2.2.2.2.2.2.2.2.2.2.2] (fun (u : St) => [wdX (xk x) aX aT aB aD aR aK aM aV aW q1.2.1, wdT (xk x) aT u, wdB (xk x) aB q1.2.2.2.1, wdB (xk x) aD q1.2.2.2.2.1, wdR (xk x) aR q1.2.2.2.2.2.1, wdK (xk x) aK q1.2.2.2.2.2.2.1, wdM (xk x) aM aJ q1.2.2.2.2.2.2.2.1, wdK (xk x) aJ q1.2.2.2.2.2.2.2.2.1, wdV (xk x) aV q1.2.2.2.2.2.2.2.2.2.1, wdW (xk x) aW q1.2.2.2.2.2.2.2.2.2.2.1, wdS (xk x) aS q1.2.2.2.2.2.2.2.2.2.2.2.1 q1.2.2.2.2.2.2.2.2.2.2.2.2]) [10, 0, 1, 2, 3, 4, 5, 6, 7, 8, 9] [1, 2, 3, 4, 5, 6, 7, 8, 9, 10, 0] (show List.Perm [10, 0, 1, 2, 3, 4, 5, 6, 7, 8, 9] (List.range 11) by decide) rfl 11 (fun _ => rfl) (by decide) (fun _ => rfl) (fun r9 u9 h => ?_)
        refine x_aload_n C 75 211 rfl 2 rfl rfl ?_
        refine x_callGVI (ci := 8) (q0 := 0) (q := (RX10, TX10, 34)) C 76 212 (c_X10_clear (xl x) (xD x) (xk x) (xg x) aS q1.2.2.2.2.2.2.2.2.2.2.2.1 q1.2.2.2.2.2.2.2.2.2.2.2.2 _ h) rfl wwGood (mem4 wq_7_8 wq_7_9 wq_7_10 wq_1_5) wq_7_11 0 ok_X10_clear rfl ⟨by decide, by decide⟩ (Nat.le_of_ble_eq_true rfl) ⟨by decide, by decide⟩ ⟨rfl, rfl⟩ rfl rfl [wdX (xk x) aX aT aB aD aR aK aM aV aW q1.2.1, wdT (xk x) aT u9, wdB (xk x) aB q1.2.2.2.1, wdB (xk x) aD q1.2.2.2.2.1, wdR (xk x) aR q1.2.2.2.2.2.1, wdK (xk x) aK q1.2.2.2.2.2.2.1, wdM (xk x) aM aJ q1.2.2.2.2.2.2.2.1, wdK (xk x) aJ q1.2.2.2.2.2.2.2.2.1, wdV (xk x) aV q1.2.2.2.2.2.2.2.2.2.1, wdW (xk x) aW q1.2.2.2.2.2.2.2.2.2.2.1] (fun (u : St) => [wdX (xk x) aX aT aB aD aR aK aM aV aW q1.2.1, wdT (xk x) aT u9, wdB (xk x) aB q1.2.2.2.1, wdB (xk x) aD q1.2.2.2.2.1, wdR (xk x) aR q1.2.2.2.2.2.1, wdK (xk x) aK q1.2.2.2.2.2.2.1, wdM (xk x) aM aJ q1.2.2.2.2.2.2.2.1, wdK (xk x) aJ q1.2.2.2.2.2.2.2.2.1, wdV (xk x) aV q1.2.2.2.2.2.2.2.2.2.1, wdW (xk x) aW q1.2.2.2.2.2.2.2.2.2.2.1, wdS (xk x) aS u q1.2.2.2.2.2.2.2.2.2.2.2.2]) [0, 1, 2, 3, 4, 5, 6, 7, 8, 9, 10] [0, 1, 2, 3, 4, 5, 6, 7, 8, 9, 10] (show List.Perm [0, 1, 2, 3, 4, 5, 6, 7, 8, 9, 10] (List.range 11) by decide) rfl 11 (fun _ => rfl) (by decide) (fun _ => rfl) (fun r10 u10 h => ?_)
        refine x_icmp_eq C 77 215 837 rfl rfl (fun c11 => ?_) (fun c11 => ?_)
        · replace h := h.1 c11
          obtain ⟨y12, ey12⟩ : ∃ y : Int32, y = q1.1 + (5 : Int32) := ⟨_, rfl⟩
          replace h := h y12 ey12
          refine x_iinc (v := y12) (lv' := [(0, .ref b), (1, .ref (aX 0)), (2, .ref (aS 0)), (3, .int y12)]) C 565 837 rfl 3 rfl (by rw [ey12]; rfl) (by decide) [1, 2, 3, 0] rfl ?_
          refine x_goto C 566 840 18 rfl rfl ?_
          exact x_sub [0, 1, 2, 3] rfl (hR18 (y12, q1.2.1, u9, q1.2.2.2.1, q1.2.2.2.2.1, q1.2.2.2.2.2.1, q1.2.2.2.2.2.2.1, q1.2.2.2.2.2.2.2.1, q1.2.2.2.2.2.2.2.2.1, q1.2.2.2.2.2.2.2.2.2.1, q1.2.2.2.2.2.2.2.2.2.2.1, u10, q1.2.2.2.2.2.2.2.2.2.2.2.2) h)
        · replace h := h.2 c11
          refine x_iconst (v := (0 : Int32)) C 78 218 rfl (by decide) ?_
          exact x_lawret C rt 79 219 rfl ⟨by decide, by decide⟩ h
      · replace h := h.2 c8
        by_cases c13 : (xs q1.1.toNatClampNeg &&& (31 : Int32)) = (2 : Int32)
        · replace h := h.1 c13
          refine x_tabIn C 21 32 220 2 rfl (2 : Int32) c13 (by decide) (by decide) rfl rfl ?_
          refine x_aload_n C 80 220 rfl 1 rfl rfl ?_
          refine x_callGVI (ci := 7) (q0 := 0) (q := (RX9, TX9, 9)) C 81 221 (c_X9_read (xl x) (xD x) (xk x) (xg x) aX aT aB aD aR aK aM aJ aV aW q1.2.1 q1.2.2.1 q1.2.2.2.1 q1.2.2.2.2.1 q1.2.2.2.2.2.1 q1.2.2.2.2.2.2.1 q1.2.2.2.2.2.2.2.1 q1.2.2.2.2.2.2.2.2.1 q1.2.2.2.2.2.2.2.2.2.1 q1.2.2.2.2.2.2.2.2.2.2.1 _ h) rfl wwGood (mem4 wq_7_12 wq_7_13 wq_7_14 wq_1_2) wq_7_15 0 ok_X9_read rfl ⟨by decide, by decide⟩ (Nat.le_of_ble_eq_true rfl) ⟨by decide, by decide⟩ ⟨rfl, rfl⟩ rfl rfl [wdS (xk x) aS q1.2.2.2.2.2.2.2.2.2.2.2.1 q1.2.2.2.2.2.2.2.2.2.2.2.2] (fun (u : St × St × St × St × St × St) => [wdX (xk x) aX aT aB aD aR aK aM aV aW u.1, wdT (xk x) aT u.2.1, wdB (xk x) aB u.2.2.1, wdB (xk x) aD u.2.2.2.1, wdR (xk x) aR u.2.2.2.2.1, wdK (xk x) aK q1.2.2.2.2.2.2.1, wdM (xk x) aM aJ u.2.2.2.2.2, wdK (xk x) aJ q1.2.2.2.2.2.2.2.2.1, wdV (xk x) aV q1.2.2.2.2.2.2.2.2.2.1, wdW (xk x) aW q1.2.2.2.2.2.2.2.2.2.2.1, wdS (xk x) aS q1.2.2.2.2.2.2.2.2.2.2.2.1 q1.2.2.2.2.2.2.2.2.2.2.2.2]) [10, 0, 1, 2, 3, 4, 5, 6, 7, 8, 9] [1, 2, 3, 4, 5, 6, 7, 8, 9, 10, 0] (show List.Perm [10, 0, 1, 2, 3, 4, 5, 6, 7, 8, 9] (List.range 11) by decide) rfl 11 (fun _ => rfl) (by decide) (fun _ => rfl) (fun r14 u14 h => ?_)
          refine x_aload_n C 82 224 rfl 2 rfl rfl ?_
          refine x_callGVI (ci := 8) (q0 := 0) (q := (RX10, TX10, 34)) C 83 225 (c_X10_read (xl x) (xD x) (xk x) (xg x) aS q1.2.2.2.2.2.2.2.2.2.2.2.1 q1.2.2.2.2.2.2.2.2.2.2.2.2 _ h) rfl wwGood (mem4 wq_13_23 wq_14_0 wq_14_1 wq_1_5) wq_14_2 0 ok_X10_read rfl ⟨by decide, by decide⟩ (Nat.le_of_ble_eq_true rfl) ⟨by decide, by decide⟩ ⟨rfl, rfl⟩ rfl rfl [wdX (xk x) aX aT aB aD aR aK aM aV aW u14.1, wdT (xk x) aT u14.2.1, wdB (xk x) aB u14.2.2.1, wdB (xk x) aD u14.2.2.2.1, wdR (xk x) aR u14.2.2.2.2.1, wdK (xk x) aK q1.2.2.2.2.2.2.1, wdM (xk x) aM aJ u14.2.2.2.2.2, wdK (xk x) aJ q1.2.2.2.2.2.2.2.2.1, wdV (xk x) aV q1.2.2.2.2.2.2.2.2.2.1, wdW (xk x) aW q1.2.2.2.2.2.2.2.2.2.2.1] (fun (u : St) => [wdX (xk x) aX aT aB aD aR aK aM aV aW u14.1, wdT (xk x) aT u14.2.1, wdB (xk x) aB u14.2.2.1, wdB (xk x) aD u14.2.2.2.1, wdR (xk x) aR u14.2.2.2.2.1, wdK (xk x) aK q1.2.2.2.2.2.2.1, wdM (xk x) aM aJ u14.2.2.2.2.2, wdK (xk x) aJ q1.2.2.2.2.2.2.2.2.1, wdV (xk x) aV q1.2.2.2.2.2.2.2.2.2.1, wdW (xk x) aW q1.2.2.2.2.2.2.2.2.2.2.1, wdS (xk x) aS u q1.2.2.2.2.2.2.2.2.2.2.2.2]) [0, 1, 2, 3, 4, 5, 6, 7, 8, 9, 10] [0, 1, 2, 3, 4, 5, 6, 7, 8, 9, 10] (show List.Perm [0, 1, 2, 3, 4, 5, 6, 7, 8, 9, 10] (List.range 11) by decide) rfl 11 (fun _ => rfl) (by decide) (fun _ => rfl) (fun r15 u15 h => ?_)
          refine x_icmp_eq C 84 228 837 rfl rfl (fun c16 => ?_) (fun c16 => ?_)
          · replace h := h.1 c16
            obtain ⟨y17, ey17⟩ : ∃ y : Int32, y = q1.1 + (5 : Int32) := ⟨_, rfl⟩
            replace h := h y17 ey17
            refine x_iinc (v := y17) (lv' := [(0, .ref b), (1, .ref (aX 0)), (2, .ref (aS 0)), (3, .int y17)]) C 565 837 rfl 3 rfl (by rw [ey17]; rfl) (by decide) [1, 2, 3, 0] rfl ?_
            refine x_goto C 566 840 18 rfl rfl ?_
            exact x_sub [0, 1, 2, 3] rfl (hR18 (y17, u14.1, u14.2.1, u14.2.2.1, u14.2.2.2.1, u14.2.2.2.2.1, q1.2.2.2.2.2.2.1, u14.2.2.2.2.2, q1.2.2.2.2.2.2.2.2.1, q1.2.2.2.2.2.2.2.2.2.1, q1.2.2.2.2.2.2.2.2.2.2.1, u15, q1.2.2.2.2.2.2.2.2.2.2.2.2) h)
          · replace h := h.2 c16
            refine x_iconst (v := (0 : Int32)) C 85 231 rfl (by decide) ?_
            exact x_lawret C rt 86 232 rfl ⟨by decide, by decide⟩ h
        · replace h := h.2 c13
          by_cases c18 : (xs q1.1.toNatClampNeg &&& (31 : Int32)) = (3 : Int32)
          · replace h := h.1 c18
            refine x_tabIn C 21 32 233 3 rfl (3 : Int32) c18 (by decide) (by decide) rfl rfl ?_
            refine x_aload_n C 87 233 rfl 1 rfl rfl ?_
            refine x_aload_n C 88 234 rfl 0 rfl rfl ?_
            refine x_iload_n C 89 235 rfl 3 rfl rfl ?_
            refine x_iconst (v := (1 : Int32)) C 90 236 rfl (by decide) ?_
            refine x_iadd C 91 237 rfl ?_
            obtain ⟨hi, h⟩ := h
            refine x_sldL C 92 238 rt rfl hi ?_
            refine x_callGVI (ci := 7) (q0 := 0) (q := (RX9, TX9, 9)) C 93 239 (c_X9_places (xl x) (xD x) (xk x) (xg x) aX aT aB aD aR aK aM aJ aV aW q1.2.1 q1.2.2.1 q1.2.2.2.1 q1.2.2.2.2.1 q1.2.2.2.2.2.1 q1.2.2.2.2.2.2.1 q1.2.2.2.2.2.2.2.1 q1.2.2.2.2.2.2.2.2.1 q1.2.2.2.2.2.2.2.2.2.1 q1.2.2.2.2.2.2.2.2.2.2.1 (xs (q1.1 + (1 : Int32)).toNatClampNeg) _ h) rfl wwGood (mem4 wq_16_0 wq_16_1 wq_16_2 wq_1_2) wq_16_3 1 ok_X9_places rfl ⟨by decide, by decide⟩ (Nat.le_of_ble_eq_true rfl) ⟨by decide, by decide⟩ ⟨rfl, rfl⟩ rfl rfl [wdS (xk x) aS q1.2.2.2.2.2.2.2.2.2.2.2.1 q1.2.2.2.2.2.2.2.2.2.2.2.2] (fun (u : Unit) => [wdX (xk x) aX aT aB aD aR aK aM aV aW q1.2.1, wdT (xk x) aT q1.2.2.1, wdB (xk x) aB q1.2.2.2.1, wdB (xk x) aD q1.2.2.2.2.1, wdR (xk x) aR q1.2.2.2.2.2.1, wdK (xk x) aK q1.2.2.2.2.2.2.1, wdM (xk x) aM aJ q1.2.2.2.2.2.2.2.1, wdK (xk x) aJ q1.2.2.2.2.2.2.2.2.1, wdV (xk x) aV q1.2.2.2.2.2.2.2.2.2.1, wdW (xk x) aW q1.2.2.2.2.2.2.2.2.2.2.1, wdS (xk x) aS q1.2.2.2.2.2.2.2.2.2.2.2.1 q1.2.2.2.2.2.2.2.2.2.2.2.2]) [10, 0, 1, 2, 3, 4, 5, 6, 7, 8, 9] [1, 2, 3, 4, 5, 6, 7, 8, 9, 10, 0] (show List.Perm [10, 0, 1, 2, 3, 4, 5, 6, 7, 8, 9] (List.range 11) by decide) rfl 11 (fun _ => rfl) (by decide) (fun _ => rfl) (fun r19 _ h => ?_)
            refine x_aload_n C 94 242 rfl 2 rfl rfl ?_
            refine x_aload_n C 95 243 rfl 0 rfl rfl ?_
            refine x_iload_n C 96 244 rfl 3 rfl rfl ?_
            refine x_iconst (v := (1 : Int32)) C 97 245 rfl (by decide) ?_
            refine x_iadd C 98 246 rfl ?_
            obtain ⟨hi, h⟩ := h
            refine x_sldL C 99 247 rt rfl hi ?_
            refine x_callGVI (ci := 8) (q0 := 0) (q := (RX10, TX10, 34)) C 100 248 (c_X10_places (xl x) (xD x) (xk x) (xg x) aS q1.2.2.2.2.2.2.2.2.2.2.2.1 q1.2.2.2.2.2.2.2.2.2.2.2.2 (xs (q1.1 + (1 : Int32)).toNatClampNeg) _ h) rfl wwGood (mem4 wq_16_8 wq_16_9 wq_16_10 wq_1_5) wq_16_11 1 ok_X10_places rfl ⟨by decide, by decide⟩ (Nat.le_of_ble_eq_true rfl) ⟨by decide, by decide⟩ ⟨rfl, rfl⟩ rfl rfl [wdX (xk x) aX aT aB aD aR aK aM aV aW q1.2.1, wdT (xk x) aT q1.2.2.1, wdB (xk x) aB q1.2.2.2.1, wdB (xk x) aD q1.2.2.2.2.1, wdR (xk x) aR q1.2.2.2.2.2.1, wdK (xk x) aK q1.2.2.2.2.2.2.1, wdM (xk x) aM aJ q1.2.2.2.2.2.2.2.1, wdK (xk x) aJ q1.2.2.2.2.2.2.2.2.1, wdV (xk x) aV q1.2.2.2.2.2.2.2.2.2.1, wdW (xk x) aW q1.2.2.2.2.2.2.2.2.2.2.1] (fun (u : Unit) => [wdX (xk x) aX aT aB aD aR aK aM aV aW q1.2.1, wdT (xk x) aT q1.2.2.1, wdB (xk x) aB q1.2.2.2.1, wdB (xk x) aD q1.2.2.2.2.1, wdR (xk x) aR q1.2.2.2.2.2.1, wdK (xk x) aK q1.2.2.2.2.2.2.1, wdM (xk x) aM aJ q1.2.2.2.2.2.2.2.1, wdK (xk x) aJ q1.2.2.2.2.2.2.2.2.1, wdV (xk x) aV q1.2.2.2.2.2.2.2.2.2.1, wdW (xk x) aW q1.2.2.2.2.2.2.2.2.2.2.1, wdS (xk x) aS q1.2.2.2.2.2.2.2.2.2.2.2.1 q1.2.2.2.2.2.2.2.2.2.2.2.2]) [0, 1, 2, 3, 4, 5, 6, 7, 8, 9, 10] [0, 1, 2, 3, 4, 5, 6, 7, 8, 9, 10] (show List.Perm [0, 1, 2, 3, 4, 5, 6, 7, 8, 9, 10] (List.range 11) by decide) rfl 11 (fun _ => rfl) (by decide) (fun _ => rfl) (fun r20 _ h => ?_)
            refine x_icmp_eq C 101 251 837 rfl rfl (fun c21 => ?_) (fun c21 => ?_)
            · replace h := h.1 c21
              obtain ⟨y22, ey22⟩ : ∃ y : Int32, y = q1.1 + (5 : Int32) := ⟨_, rfl⟩
              replace h := h y22 ey22
              refine x_iinc (v := y22) (lv' := [(0, .ref b), (1, .ref (aX 0)), (2, .ref (aS 0)), (3, .int y22)]) C 565 837 rfl 3 rfl (by rw [ey22]; rfl) (by decide) [1, 2, 3, 0] rfl ?_
              refine x_goto C 566 840 18 rfl rfl ?_
              exact x_sub [0, 1, 2, 3] rfl (hR18 (y22, q1.2.1, q1.2.2.1, q1.2.2.2.1, q1.2.2.2.2.1, q1.2.2.2.2.2.1, q1.2.2.2.2.2.2.1, q1.2.2.2.2.2.2.2.1, q1.2.2.2.2.2.2.2.2.1, q1.2.2.2.2.2.2.2.2.2.1, q1.2.2.2.2.2.2.2.2.2.2.1, q1.2.2.2.2.2.2.2.2.2.2.2.1, q1.2.2.2.2.2.2.2.2.2.2.2.2) h)
            · replace h := h.2 c21
              refine x_iconst (v := (0 : Int32)) C 102 254 rfl (by decide) ?_
              exact x_lawret C rt 103 255 rfl ⟨by decide, by decide⟩ h
          · replace h := h.2 c18
            by_cases c23 : (xs q1.1.toNatClampNeg &&& (31 : Int32)) = (4 : Int32)
            · replace h := h.1 c23
              refine x_tabIn C 21 32 256 4 rfl (4 : Int32) c23 (by decide) (by decide) rfl rfl ?_
              refine x_aload_n C 104 256 rfl 1 rfl rfl ?_
              refine x_aload_n C 105 257 rfl 0 rfl rfl ?_
              refine x_iload_n C 106 258 rfl 3 rfl rfl ?_
              refine x_iconst (v := (1 : Int32)) C 107 259 rfl (by decide) ?_
              refine x_iadd C 108 260 rfl ?_
              obtain ⟨hi, h⟩ := h
              refine x_sldL C 109 261 rt rfl hi ?_
              refine x_aload_n C 110 262 rfl 0 rfl rfl ?_
              refine x_iload_n C 111 263 rfl 3 rfl rfl ?_
              refine x_iconst (v := (2 : Int32)) C 112 264 rfl (by decide) ?_
              refine x_iadd C 113 265 rfl ?_
              obtain ⟨hi, h⟩ := h
              refine x_sldL C 114 266 rt rfl hi ?_
              refine x_callGVI (ci := 7) (q0 := 0) (q := (RX9, TX9, 9)) C 115 267 (c_X9_call (xl x) (xD x) (xk x) (xg x) aX aT aB aD aR aK aM aJ aV aW q1.2.1 q1.2.2.1 q1.2.2.2.1 q1.2.2.2.2.1 q1.2.2.2.2.2.1 q1.2.2.2.2.2.2.1 q1.2.2.2.2.2.2.2.1 q1.2.2.2.2.2.2.2.2.1 q1.2.2.2.2.2.2.2.2.2.1 q1.2.2.2.2.2.2.2.2.2.2.1 (xs (q1.1 + (1 : Int32)).toNatClampNeg) (xs (q1.1 + (2 : Int32)).toNatClampNeg) _ h) rfl wwGood (mem4 wq_16_16 wq_16_17 wq_16_18 wq_1_2) wq_16_19 2 ok_X9_call rfl ⟨by decide, by decide⟩ (Nat.le_of_ble_eq_true rfl) ⟨by decide, by decide⟩ ⟨rfl, rfl⟩ rfl rfl [wdS (xk x) aS q1.2.2.2.2.2.2.2.2.2.2.2.1 q1.2.2.2.2.2.2.2.2.2.2.2.2] (fun (u : Unit) => [wdX (xk x) aX aT aB aD aR aK aM aV aW q1.2.1, wdT (xk x) aT q1.2.2.1, wdB (xk x) aB q1.2.2.2.1, wdB (xk x) aD q1.2.2.2.2.1, wdR (xk x) aR q1.2.2.2.2.2.1, wdK (xk x) aK q1.2.2.2.2.2.2.1, wdM (xk x) aM aJ q1.2.2.2.2.2.2.2.1, wdK (xk x) aJ q1.2.2.2.2.2.2.2.2.1, wdV (xk x) aV q1.2.2.2.2.2.2.2.2.2.1, wdW (xk x) aW q1.2.2.2.2.2.2.2.2.2.2.1, wdS (xk x) aS q1.2.2.2.2.2.2.2.2.2.2.2.1 q1.2.2.2.2.2.2.2.2.2.2.2.2]) [10, 0, 1, 2, 3, 4, 5, 6, 7, 8, 9] [1, 2, 3, 4, 5, 6, 7, 8, 9, 10, 0] (show List.Perm [10, 0, 1, 2, 3, 4, 5, 6, 7, 8, 9] (List.range 11) by decide) rfl 11 (fun _ => rfl) (by decide) (fun _ => rfl) (fun r24 _ h => ?_)
              refine x_aload_n C 116 270 rfl 2 rfl rfl ?_
              refine x_aload_n C 117 271 rfl 0 rfl rfl ?_
              refine x_iload_n C 118 272 rfl 3 rfl rfl ?_
              refine x_iconst (v := (1 : Int32)) C 119 273 rfl (by decide) ?_
              refine x_iadd C 120 274 rfl ?_
              obtain ⟨hi, h⟩ := h
              refine x_sldL C 121 275 rt rfl hi ?_
              refine x_aload_n C 122 276 rfl 0 rfl rfl ?_
              refine x_iload_n C 123 277 rfl 3 rfl rfl ?_
              refine x_iconst (v := (2 : Int32)) C 124 278 rfl (by decide) ?_
              refine x_iadd C 125 279 rfl ?_
              obtain ⟨hi, h⟩ := h
              refine x_sldL C 126 280 rt rfl hi ?_
              refine x_callGVI (ci := 8) (q0 := 0) (q := (RX10, TX10, 34)) C 127 281 (c_X10_call (xl x) (xD x) (xk x) (xg x) aS q1.2.2.2.2.2.2.2.2.2.2.2.1 q1.2.2.2.2.2.2.2.2.2.2.2.2 (xs (q1.1 + (1 : Int32)).toNatClampNeg) (xs (q1.1 + (2 : Int32)).toNatClampNeg) _ h) rfl wwGood (mem4 wq_17_6 wq_17_7 wq_17_8 wq_1_5) wq_17_9 2 ok_X10_call rfl ⟨by decide, by decide⟩ (Nat.le_of_ble_eq_true rfl) ⟨by decide, by decide⟩ ⟨rfl, rfl⟩ rfl rfl [wdX (xk x) aX aT aB aD aR aK aM aV aW q1.2.1, wdT (xk x) aT q1.2.2.1, wdB (xk x) aB q1.2.2.2.1, wdB (xk x) aD q1.2.2.2.2.1, wdR (xk x) aR q1.2.2.2.2.2.1, wdK (xk x) aK q1.2.2.2.2.2.2.1, wdM (xk x) aM aJ q1.2.2.2.2.2.2.2.1, wdK (xk x) aJ q1.2.2.2.2.2.2.2.2.1, wdV (xk x) aV q1.2.2.2.2.2.2.2.2.2.1, wdW (xk x) aW q1.2.2.2.2.2.2.2.2.2.2.1] (fun (u : Unit) => [wdX (xk x) aX aT aB aD aR aK aM aV aW q1.2.1, wdT (xk x) aT q1.2.2.1, wdB (xk x) aB q1.2.2.2.1, wdB (xk x) aD q1.2.2.2.2.1, wdR (xk x) aR q1.2.2.2.2.2.1, wdK (xk x) aK q1.2.2.2.2.2.2.1, wdM (xk x) aM aJ q1.2.2.2.2.2.2.2.1, wdK (xk x) aJ q1.2.2.2.2.2.2.2.2.1, wdV (xk x) aV q1.2.2.2.2.2.2.2.2.2.1, wdW (xk x) aW q1.2.2.2.2.2.2.2.2.2.2.1, wdS (xk x) aS q1.2.2.2.2.2.2.2.2.2.2.2.1 q1.2.2.2.2.2.2.2.2.2.2.2.2]) [0, 1, 2, 3, 4, 5, 6, 7, 8, 9, 10] [0, 1, 2, 3, 4, 5, 6, 7, 8, 9, 10] (show List.Perm [0, 1, 2, 3, 4, 5, 6, 7, 8, 9, 10] (List.range 11) by decide) rfl 11 (fun _ => rfl) (by decide) (fun _ => rfl) (fun r25 _ h => ?_)
              refine x_icmp_eq C 128 284 837 rfl rfl (fun c26 => ?_) (fun c26 => ?_)
              · replace h := h.1 c26
                obtain ⟨y27, ey27⟩ : ∃ y : Int32, y = q1.1 + (5 : Int32) := ⟨_, rfl⟩
                replace h := h y27 ey27
                refine x_iinc (v := y27) (lv' := [(0, .ref b), (1, .ref (aX 0)), (2, .ref (aS 0)), (3, .int y27)]) C 565 837 rfl 3 rfl (by rw [ey27]; rfl) (by decide) [1, 2, 3, 0] rfl ?_
                refine x_goto C 566 840 18 rfl rfl ?_
                exact x_sub [0, 1, 2, 3] rfl (hR18 (y27, q1.2.1, q1.2.2.1, q1.2.2.2.1, q1.2.2.2.2.1, q1.2.2.2.2.2.1, q1.2.2.2.2.2.2.1, q1.2.2.2.2.2.2.2.1, q1.2.2.2.2.2.2.2.2.1, q1.2.2.2.2.2.2.2.2.2.1, q1.2.2.2.2.2.2.2.2.2.2.1, q1.2.2.2.2.2.2.2.2.2.2.2.1, q1.2.2.2.2.2.2.2.2.2.2.2.2) h)
              · replace h := h.2 c26
                refine x_iconst (v := (0 : Int32)) C 129 287 rfl (by decide) ?_
                exact x_lawret C rt 130 288 rfl ⟨by decide, by decide⟩ h
            · replace h := h.2 c23
              by_cases c28 : (xs q1.1.toNatClampNeg &&& (31 : Int32)) = (5 : Int32)
              · replace h := h.1 c28
                refine x_tabIn C 21 32 289 5 rfl (5 : Int32) c28 (by decide) (by decide) rfl rfl ?_
                refine x_aload_n C 131 289 rfl 1 rfl rfl ?_
                refine x_aload_n C 132 290 rfl 0 rfl rfl ?_
                refine x_iload_n C 133 291 rfl 3 rfl rfl ?_
                refine x_iconst (v := (1 : Int32)) C 134 292 rfl (by decide) ?_
                refine x_iadd C 135 293 rfl ?_
                obtain ⟨hi, h⟩ := h
                refine x_sldL C 136 294 rt rfl hi ?_
                refine x_aload_n C 137 295 rfl 0 rfl rfl ?_
                refine x_iload_n C 138 296 rfl 3 rfl rfl ?_
                refine x_iconst (v := (2 : Int32)) C 139 297 rfl (by decide) ?_
                refine x_iadd C 140 298 rfl ?_
                obtain ⟨hi, h⟩ := h
                refine x_sldL C 141 299 rt rfl hi ?_
                refine x_aload_n C 142 300 rfl 0 rfl rfl ?_
                refine x_iload_n C 143 301 rfl 3 rfl rfl ?_
                refine x_iconst (v := (3 : Int32)) C 144 302 rfl (by decide) ?_
                refine x_iadd C 145 303 rfl ?_
                obtain ⟨hi, h⟩ := h
                refine x_sldL C 146 304 rt rfl hi ?_
                refine x_callGVI (ci := 7) (q0 := 0) (q := (RX9, TX9, 9)) C 147 305 (c_X9_arc (xl x) (xD x) (xk x) (xg x) aX aT aB aD aR aK aM aJ aV aW q1.2.1 q1.2.2.1 q1.2.2.2.1 q1.2.2.2.2.1 q1.2.2.2.2.2.1 q1.2.2.2.2.2.2.1 q1.2.2.2.2.2.2.2.1 q1.2.2.2.2.2.2.2.2.1 q1.2.2.2.2.2.2.2.2.2.1 q1.2.2.2.2.2.2.2.2.2.2.1 (xs (q1.1 + (1 : Int32)).toNatClampNeg) (xs (q1.1 + (2 : Int32)).toNatClampNeg) (xs (q1.1 + (3 : Int32)).toNatClampNeg) _ h) rfl wwGood (mem4 wq_17_19 wq_17_20 wq_17_21 wq_1_2) wq_17_22 3 ok_X9_arc rfl ⟨by decide, by decide⟩ (Nat.le_of_ble_eq_true rfl) ⟨by decide, by decide⟩ ⟨rfl, rfl⟩ rfl rfl [wdS (xk x) aS q1.2.2.2.2.2.2.2.2.2.2.2.1 q1.2.2.2.2.2.2.2.2.2.2.2.2] (fun (u : Unit) => [wdX (xk x) aX aT aB aD aR aK aM aV aW q1.2.1, wdT (xk x) aT q1.2.2.1, wdB (xk x) aB q1.2.2.2.1, wdB (xk x) aD q1.2.2.2.2.1, wdR (xk x) aR q1.2.2.2.2.2.1, wdK (xk x) aK q1.2.2.2.2.2.2.1, wdM (xk x) aM aJ q1.2.2.2.2.2.2.2.1, wdK (xk x) aJ q1.2.2.2.2.2.2.2.2.1, wdV (xk x) aV q1.2.2.2.2.2.2.2.2.2.1, wdW (xk x) aW q1.2.2.2.2.2.2.2.2.2.2.1, wdS (xk x) aS q1.2.2.2.2.2.2.2.2.2.2.2.1 q1.2.2.2.2.2.2.2.2.2.2.2.2]) [10, 0, 1, 2, 3, 4, 5, 6, 7, 8, 9] [1, 2, 3, 4, 5, 6, 7, 8, 9, 10, 0] (show List.Perm [10, 0, 1, 2, 3, 4, 5, 6, 7, 8, 9] (List.range 11) by decide) rfl 11 (fun _ => rfl) (by decide) (fun _ => rfl) (fun r29 _ h => ?_)
                refine x_aload_n C 148 308 rfl 2 rfl rfl ?_
                refine x_aload_n C 149 309 rfl 0 rfl rfl ?_
                refine x_iload_n C 150 310 rfl 3 rfl rfl ?_
                refine x_iconst (v := (1 : Int32)) C 151 311 rfl (by decide) ?_
                refine x_iadd C 152 312 rfl ?_
                obtain ⟨hi, h⟩ := h
                refine x_sldL C 153 313 rt rfl hi ?_
                refine x_aload_n C 154 314 rfl 0 rfl rfl ?_
                refine x_iload_n C 155 315 rfl 3 rfl rfl ?_
                refine x_iconst (v := (2 : Int32)) C 156 316 rfl (by decide) ?_
                refine x_iadd C 157 317 rfl ?_
                obtain ⟨hi, h⟩ := h
                refine x_sldL C 158 318 rt rfl hi ?_
                refine x_aload_n C 159 319 rfl 0 rfl rfl ?_
                refine x_iload_n C 160 320 rfl 3 rfl rfl ?_
                refine x_iconst (v := (3 : Int32)) C 161 321 rfl (by decide) ?_
                refine x_iadd C 162 322 rfl ?_
                obtain ⟨hi, h⟩ := h
                refine x_sldL C 163 323 rt rfl hi ?_
                refine x_callGVI (ci := 8) (q0 := 0) (q := (RX10, TX10, 34)) C 164 324 (c_X10_arc (xl x) (xD x) (xk x) (xg x) aS q1.2.2.2.2.2.2.2.2.2.2.2.1 q1.2.2.2.2.2.2.2.2.2.2.2.2 (xs (q1.1 + (1 : Int32)).toNatClampNeg) (xs (q1.1 + (2 : Int32)).toNatClampNeg) (xs (q1.1 + (3 : Int32)).toNatClampNeg) _ h) rfl wwGood (mem4 wq_18_5 wq_18_6 wq_18_7 wq_1_5) wq_18_8 3 ok_X10_arc rfl ⟨by decide, by decide⟩ (Nat.le_of_ble_eq_true rfl) ⟨by decide, by decide⟩ ⟨rfl, rfl⟩ rfl rfl [wdX (xk x) aX aT aB aD aR aK aM aV aW q1.2.1, wdT (xk x) aT q1.2.2.1, wdB (xk x) aB q1.2.2.2.1, wdB (xk x) aD q1.2.2.2.2.1, wdR (xk x) aR q1.2.2.2.2.2.1, wdK (xk x) aK q1.2.2.2.2.2.2.1, wdM (xk x) aM aJ q1.2.2.2.2.2.2.2.1, wdK (xk x) aJ q1.2.2.2.2.2.2.2.2.1, wdV (xk x) aV q1.2.2.2.2.2.2.2.2.2.1, wdW (xk x) aW q1.2.2.2.2.2.2.2.2.2.2.1] (fun (u : Unit) => [wdX (xk x) aX aT aB aD aR aK aM aV aW q1.2.1, wdT (xk x) aT q1.2.2.1, wdB (xk x) aB q1.2.2.2.1, wdB (xk x) aD q1.2.2.2.2.1, wdR (xk x) aR q1.2.2.2.2.2.1, wdK (xk x) aK q1.2.2.2.2.2.2.1, wdM (xk x) aM aJ q1.2.2.2.2.2.2.2.1, wdK (xk x) aJ q1.2.2.2.2.2.2.2.2.1, wdV (xk x) aV q1.2.2.2.2.2.2.2.2.2.1, wdW (xk x) aW q1.2.2.2.2.2.2.2.2.2.2.1, wdS (xk x) aS q1.2.2.2.2.2.2.2.2.2.2.2.1 q1.2.2.2.2.2.2.2.2.2.2.2.2]) [0, 1, 2, 3, 4, 5, 6, 7, 8, 9, 10] [0, 1, 2, 3, 4, 5, 6, 7, 8, 9, 10] (show List.Perm [0, 1, 2, 3, 4, 5, 6, 7, 8, 9, 10] (List.range 11) by decide) rfl 11 (fun _ => rfl) (by decide) (fun _ => rfl) (fun r30 _ h => ?_)
                refine x_icmp_eq C 165 327 837 rfl rfl (fun c31 => ?_) (fun c31 => ?_)
                · replace h := h.1 c31
                  obtain ⟨y32, ey32⟩ : ∃ y : Int32, y = q1.1 + (5 : Int32) := ⟨_, rfl⟩
                  replace h := h y32 ey32
                  refine x_iinc (v := y32) (lv' := [(0, .ref b), (1, .ref (aX 0)), (2, .ref (aS 0)), (3, .int y32)]) C 565 837 rfl 3 rfl (by rw [ey32]; rfl) (by decide) [1, 2, 3, 0] rfl ?_
                  refine x_goto C 566 840 18 rfl rfl ?_
                  exact x_sub [0, 1, 2, 3] rfl (hR18 (y32, q1.2.1, q1.2.2.1, q1.2.2.2.1, q1.2.2.2.2.1, q1.2.2.2.2.2.1, q1.2.2.2.2.2.2.1, q1.2.2.2.2.2.2.2.1, q1.2.2.2.2.2.2.2.2.1, q1.2.2.2.2.2.2.2.2.2.1, q1.2.2.2.2.2.2.2.2.2.2.1, q1.2.2.2.2.2.2.2.2.2.2.2.1, q1.2.2.2.2.2.2.2.2.2.2.2.2) h)
                · replace h := h.2 c31
                  refine x_iconst (v := (0 : Int32)) C 166 330 rfl (by decide) ?_
                  exact x_lawret C rt 167 331 rfl ⟨by decide, by decide⟩ h
              · replace h := h.2 c28
                by_cases c33 : (xs q1.1.toNatClampNeg &&& (31 : Int32)) = (6 : Int32)
                · replace h := h.1 c33
                  refine x_tabIn C 21 32 332 6 rfl (6 : Int32) c33 (by decide) (by decide) rfl rfl ?_
                  refine x_aload_n C 168 332 rfl 1 rfl rfl ?_
                  refine x_aload_n C 169 333 rfl 0 rfl rfl ?_
                  refine x_iload_n C 170 334 rfl 3 rfl rfl ?_
                  refine x_iconst (v := (1 : Int32)) C 171 335 rfl (by decide) ?_
                  refine x_iadd C 172 336 rfl ?_
                  obtain ⟨hi, h⟩ := h
                  refine x_sldL C 173 337 rt rfl hi ?_
                  refine x_aload_n C 174 338 rfl 0 rfl rfl ?_
                  refine x_iload_n C 175 339 rfl 3 rfl rfl ?_
                  refine x_iconst (v := (2 : Int32)) C 176 340 rfl (by decide) ?_
                  refine x_iadd C 177 341 rfl ?_
                  obtain ⟨hi, h⟩ := h
                  refine x_sldL C 178 342 rt rfl hi ?_
                  refine x_aload_n C 179 343 rfl 0 rfl rfl ?_
                  refine x_iload_n C 180 344 rfl 3 rfl rfl ?_
                  refine x_iconst (v := (3 : Int32)) C 181 345 rfl (by decide) ?_
                  refine x_iadd C 182 346 rfl ?_
                  obtain ⟨hi, h⟩ := h
                  refine x_sldL C 183 347 rt rfl hi ?_
                  refine x_aload_n C 184 348 rfl 0 rfl rfl ?_
                  refine x_iload_n C 185 349 rfl 3 rfl rfl ?_
                  refine x_iconst (v := (4 : Int32)) C 186 350 rfl (by decide) ?_
                  refine x_iadd C 187 351 rfl ?_
                  obtain ⟨hi, h⟩ := h
                  refine x_sldL C 188 352 rt rfl hi ?_
                  refine x_callGVI (ci := 7) (q0 := 0) (q := (RX9, TX9, 9)) C 189 353 (c_X9_put (xl x) (xD x) (xk x) (xg x) aX aT aB aD aR aK aM aJ aV aW q1.2.1 q1.2.2.1 q1.2.2.2.1 q1.2.2.2.2.1 q1.2.2.2.2.2.1 q1.2.2.2.2.2.2.1 q1.2.2.2.2.2.2.2.1 q1.2.2.2.2.2.2.2.2.1 q1.2.2.2.2.2.2.2.2.2.1 q1.2.2.2.2.2.2.2.2.2.2.1 (xs (q1.1 + (1 : Int32)).toNatClampNeg) (xs (q1.1 + (2 : Int32)).toNatClampNeg) (xs (q1.1 + (3 : Int32)).toNatClampNeg) (xs (q1.1 + (4 : Int32)).toNatClampNeg) _ h) rfl wwGood (mem4 wq_18_13 wq_18_14 wq_18_15 wq_1_2) wq_18_16 4 ok_X9_put rfl ⟨by decide, by decide⟩ (Nat.le_of_ble_eq_true rfl) ⟨by decide, by decide⟩ ⟨rfl, rfl⟩ rfl rfl [wdS (xk x) aS q1.2.2.2.2.2.2.2.2.2.2.2.1 q1.2.2.2.2.2.2.2.2.2.2.2.2] (fun (u : St × St × St) => [wdX (xk x) aX aT aB aD aR aK aM aV aW u.1, wdT (xk x) aT q1.2.2.1, wdB (xk x) aB u.2.1, wdB (xk x) aD q1.2.2.2.2.1, wdR (xk x) aR q1.2.2.2.2.2.1, wdK (xk x) aK q1.2.2.2.2.2.2.1, wdM (xk x) aM aJ u.2.2, wdK (xk x) aJ q1.2.2.2.2.2.2.2.2.1, wdV (xk x) aV q1.2.2.2.2.2.2.2.2.2.1, wdW (xk x) aW q1.2.2.2.2.2.2.2.2.2.2.1, wdS (xk x) aS q1.2.2.2.2.2.2.2.2.2.2.2.1 q1.2.2.2.2.2.2.2.2.2.2.2.2]) [10, 0, 1, 2, 3, 4, 5, 6, 7, 8, 9] [1, 2, 3, 4, 5, 6, 7, 8, 9, 10, 0] (show List.Perm [10, 0, 1, 2, 3, 4, 5, 6, 7, 8, 9] (List.range 11) by decide) rfl 11 (fun _ => rfl) (by decide) (fun _ => rfl) (fun r34 u34 h => ?_)
                  refine x_aload_n C 190 356 rfl 2 rfl rfl ?_
                  refine x_aload_n C 191 357 rfl 0 rfl rfl ?_
                  refine x_iload_n C 192 358 rfl 3 rfl rfl ?_
                  refine x_iconst (v := (1 : Int32)) C 193 359 rfl (by decide) ?_
                  refine x_iadd C 194 360 rfl ?_
                  obtain ⟨hi, h⟩ := h
                  refine x_sldL C 195 361 rt rfl hi ?_
                  refine x_aload_n C 196 362 rfl 0 rfl rfl ?_
                  refine x_iload_n C 197 363 rfl 3 rfl rfl ?_
                  refine x_iconst (v := (2 : Int32)) C 198 364 rfl (by decide) ?_
                  refine x_iadd C 199 365 rfl ?_
                  obtain ⟨hi, h⟩ := h
                  refine x_sldL C 200 366 rt rfl hi ?_
                  refine x_aload_n C 201 367 rfl 0 rfl rfl ?_
                  refine x_iload_n C 202 368 rfl 3 rfl rfl ?_
                  refine x_iconst (v := (3 : Int32)) C 203 369 rfl (by decide) ?_
                  refine x_iadd C 204 370 rfl ?_
                  obtain ⟨hi, h⟩ := h
                  refine x_sldL C 205 371 rt rfl hi ?_
                  refine x_aload_n C 206 372 rfl 0 rfl rfl ?_
                  refine x_iload_n C 207 373 rfl 3 rfl rfl ?_
                  refine x_iconst (v := (4 : Int32)) C 208 374 rfl (by decide) ?_
                  refine x_iadd C 209 375 rfl ?_
                  obtain ⟨hi, h⟩ := h
                  refine x_sldL C 210 376 rt rfl hi ?_
                  refine x_callGVI (ci := 8) (q0 := 0) (q := (RX10, TX10, 34)) C 211 377 (c_X10_put (xl x) (xD x) (xk x) (xg x) aS q1.2.2.2.2.2.2.2.2.2.2.2.1 q1.2.2.2.2.2.2.2.2.2.2.2.2 (xs (q1.1 + (1 : Int32)).toNatClampNeg) (xs (q1.1 + (2 : Int32)).toNatClampNeg) (xs (q1.1 + (3 : Int32)).toNatClampNeg) (xs (q1.1 + (4 : Int32)).toNatClampNeg) _ h) rfl wwGood (mem4 wq_18_18 wq_18_19 wq_18_20 wq_1_5) wq_18_21 4 ok_X10_put rfl ⟨by decide, by decide⟩ (Nat.le_of_ble_eq_true rfl) ⟨by decide, by decide⟩ ⟨rfl, rfl⟩ rfl rfl [wdX (xk x) aX aT aB aD aR aK aM aV aW u34.1, wdT (xk x) aT q1.2.2.1, wdB (xk x) aB u34.2.1, wdB (xk x) aD q1.2.2.2.2.1, wdR (xk x) aR q1.2.2.2.2.2.1, wdK (xk x) aK q1.2.2.2.2.2.2.1, wdM (xk x) aM aJ u34.2.2, wdK (xk x) aJ q1.2.2.2.2.2.2.2.2.1, wdV (xk x) aV q1.2.2.2.2.2.2.2.2.2.1, wdW (xk x) aW q1.2.2.2.2.2.2.2.2.2.2.1] (fun (u : St) => [wdX (xk x) aX aT aB aD aR aK aM aV aW u34.1, wdT (xk x) aT q1.2.2.1, wdB (xk x) aB u34.2.1, wdB (xk x) aD q1.2.2.2.2.1, wdR (xk x) aR q1.2.2.2.2.2.1, wdK (xk x) aK q1.2.2.2.2.2.2.1, wdM (xk x) aM aJ u34.2.2, wdK (xk x) aJ q1.2.2.2.2.2.2.2.2.1, wdV (xk x) aV q1.2.2.2.2.2.2.2.2.2.1, wdW (xk x) aW q1.2.2.2.2.2.2.2.2.2.2.1, wdS (xk x) aS u q1.2.2.2.2.2.2.2.2.2.2.2.2]) [0, 1, 2, 3, 4, 5, 6, 7, 8, 9, 10] [0, 1, 2, 3, 4, 5, 6, 7, 8, 9, 10] (show List.Perm [0, 1, 2, 3, 4, 5, 6, 7, 8, 9, 10] (List.range 11) by decide) rfl 11 (fun _ => rfl) (by decide) (fun _ => rfl) (fun r35 u35 h => ?_)
                  refine x_icmp_eq C 212 380 837 rfl rfl (fun c36 => ?_) (fun c36 => ?_)
                  · replace h := h.1 c36
                    obtain ⟨y37, ey37⟩ : ∃ y : Int32, y = q1.1 + (5 : Int32) := ⟨_, rfl⟩
                    replace h := h y37 ey37
                    refine x_iinc (v := y37) (lv' := [(0, .ref b), (1, .ref (aX 0)), (2, .ref (aS 0)), (3, .int y37)]) C 565 837 rfl 3 rfl (by rw [ey37]; rfl) (by decide) [1, 2, 3, 0] rfl ?_
                    refine x_goto C 566 840 18 rfl rfl ?_
                    exact x_sub [0, 1, 2, 3] rfl (hR18 (y37, u34.1, q1.2.2.1, u34.2.1, q1.2.2.2.2.1, q1.2.2.2.2.2.1, q1.2.2.2.2.2.2.1, u34.2.2, q1.2.2.2.2.2.2.2.2.1, q1.2.2.2.2.2.2.2.2.2.1, q1.2.2.2.2.2.2.2.2.2.2.1, u35, q1.2.2.2.2.2.2.2.2.2.2.2.2) h)
                  · replace h := h.2 c36
                    refine x_iconst (v := (0 : Int32)) C 213 383 rfl (by decide) ?_
                    exact x_lawret C rt 214 384 rfl ⟨by decide, by decide⟩ h
                · replace h := h.2 c33
                  by_cases c38 : (xs q1.1.toNatClampNeg &&& (31 : Int32)) = (7 : Int32)
                  · replace h := h.1 c38
                    refine x_tabIn C 21 32 385 7 rfl (7 : Int32) c38 (by decide) (by decide) rfl rfl ?_
                    refine x_aload_n C 215 385 rfl 1 rfl rfl ?_
                    refine x_callGVI (ci := 7) (q0 := 0) (q := (RX9, TX9, 9)) C 216 386 (c_X9_graphs (xl x) (xD x) (xk x) (xg x) aX aT aB aD aR aK aM aJ aV aW q1.2.1 q1.2.2.1 q1.2.2.2.1 q1.2.2.2.2.1 q1.2.2.2.2.2.1 q1.2.2.2.2.2.2.1 q1.2.2.2.2.2.2.2.1 q1.2.2.2.2.2.2.2.2.1 q1.2.2.2.2.2.2.2.2.2.1 q1.2.2.2.2.2.2.2.2.2.2.1 _ h) rfl wwGood (mem4 wq_18_22 wq_18_23 wq_19_0 wq_1_2) wq_19_1 0 ok_X9_graphs rfl ⟨by decide, by decide⟩ (Nat.le_of_ble_eq_true rfl) ⟨by decide, by decide⟩ ⟨rfl, rfl⟩ rfl rfl [wdS (xk x) aS q1.2.2.2.2.2.2.2.2.2.2.2.1 q1.2.2.2.2.2.2.2.2.2.2.2.2] (fun (u : St × St) => [wdX (xk x) aX aT aB aD aR aK aM aV aW u.1, wdT (xk x) aT q1.2.2.1, wdB (xk x) aB q1.2.2.2.1, wdB (xk x) aD q1.2.2.2.2.1, wdR (xk x) aR q1.2.2.2.2.2.1, wdK (xk x) aK u.2, wdM (xk x) aM aJ q1.2.2.2.2.2.2.2.1, wdK (xk x) aJ q1.2.2.2.2.2.2.2.2.1, wdV (xk x) aV q1.2.2.2.2.2.2.2.2.2.1, wdW (xk x) aW q1.2.2.2.2.2.2.2.2.2.2.1, wdS (xk x) aS q1.2.2.2.2.2.2.2.2.2.2.2.1 q1.2.2.2.2.2.2.2.2.2.2.2.2]) [10, 0, 1, 2, 3, 4, 5, 6, 7, 8, 9] [1, 2, 3, 4, 5, 6, 7, 8, 9, 10, 0] (show List.Perm [10, 0, 1, 2, 3, 4, 5, 6, 7, 8, 9] (List.range 11) by decide) rfl 11 (fun _ => rfl) (by decide) (fun _ => rfl) (fun r39 u39 h => ?_)
                    refine x_aload_n C 217 389 rfl 2 rfl rfl ?_
                    refine x_callGVI (ci := 8) (q0 := 0) (q := (RX10, TX10, 34)) C 218 390 (c_X10_graphs (xl x) (xD x) (xk x) (xg x) aS q1.2.2.2.2.2.2.2.2.2.2.2.1 q1.2.2.2.2.2.2.2.2.2.2.2.2 _ h) rfl wwGood (mem4 wq_22_4 wq_22_5 wq_22_6 wq_1_5) wq_22_7 0 ok_X10_graphs rfl ⟨by decide, by decide⟩ (Nat.le_of_ble_eq_true rfl) ⟨by decide, by decide⟩ ⟨rfl, rfl⟩ rfl rfl [wdX (xk x) aX aT aB aD aR aK aM aV aW u39.1, wdT (xk x) aT q1.2.2.1, wdB (xk x) aB q1.2.2.2.1, wdB (xk x) aD q1.2.2.2.2.1, wdR (xk x) aR q1.2.2.2.2.2.1, wdK (xk x) aK u39.2, wdM (xk x) aM aJ q1.2.2.2.2.2.2.2.1, wdK (xk x) aJ q1.2.2.2.2.2.2.2.2.1, wdV (xk x) aV q1.2.2.2.2.2.2.2.2.2.1, wdW (xk x) aW q1.2.2.2.2.2.2.2.2.2.2.1] (fun (u : St) => [wdX (xk x) aX aT aB aD aR aK aM aV aW u39.1, wdT (xk x) aT q1.2.2.1, wdB (xk x) aB q1.2.2.2.1, wdB (xk x) aD q1.2.2.2.2.1, wdR (xk x) aR q1.2.2.2.2.2.1, wdK (xk x) aK u39.2, wdM (xk x) aM aJ q1.2.2.2.2.2.2.2.1, wdK (xk x) aJ q1.2.2.2.2.2.2.2.2.1, wdV (xk x) aV q1.2.2.2.2.2.2.2.2.2.1, wdW (xk x) aW q1.2.2.2.2.2.2.2.2.2.2.1, wdS (xk x) aS u q1.2.2.2.2.2.2.2.2.2.2.2.2]) [0, 1, 2, 3, 4, 5, 6, 7, 8, 9, 10] [0, 1, 2, 3, 4, 5, 6, 7, 8, 9, 10] (show List.Perm [0, 1, 2, 3, 4, 5, 6, 7, 8, 9, 10] (List.range 11) by decide) rfl 11 (fun _ => rfl) (by decide) (fun _ => rfl) (fun r40 u40 h => ?_)
                    refine x_icmp_eq C 219 393 837 rfl rfl (fun c41 => ?_) (fun c41 => ?_)
                    · replace h := h.1 c41
                      obtain ⟨y42, ey42⟩ : ∃ y : Int32, y = q1.1 + (5 : Int32) := ⟨_, rfl⟩
                      replace h := h y42 ey42
                      refine x_iinc (v := y42) (lv' := [(0, .ref b), (1, .ref (aX 0)), (2, .ref (aS 0)), (3, .int y42)]) C 565 837 rfl 3 rfl (by rw [ey42]; rfl) (by decide) [1, 2, 3, 0] rfl ?_
                      refine x_goto C 566 840 18 rfl rfl ?_
                      exact x_sub [0, 1, 2, 3] rfl (hR18 (y42, u39.1, q1.2.2.1, q1.2.2.2.1, q1.2.2.2.2.1, q1.2.2.2.2.2.1, u39.2, q1.2.2.2.2.2.2.2.1, q1.2.2.2.2.2.2.2.2.1, q1.2.2.2.2.2.2.2.2.2.1, q1.2.2.2.2.2.2.2.2.2.2.1, u40, q1.2.2.2.2.2.2.2.2.2.2.2.2) h)
                    · replace h := h.2 c41
                      refine x_iconst (v := (0 : Int32)) C 220 396 rfl (by decide) ?_
                      exact x_lawret C rt 221 397 rfl ⟨by decide, by decide⟩ h
                  · replace h := h.2 c38
                    by_cases c43 : (xs q1.1.toNatClampNeg &&& (31 : Int32)) = (8 : Int32)
                    · replace h := h.1 c43
                      refine x_tabIn C 21 32 398 8 rfl (8 : Int32) c43 (by decide) (by decide) rfl rfl ?_
                      refine x_aload_n C 222 398 rfl 1 rfl rfl ?_
                      refine x_aload_n C 223 399 rfl 0 rfl rfl ?_
                      refine x_iload_n C 224 400 rfl 3 rfl rfl ?_
                      refine x_iconst (v := (1 : Int32)) C 225 401 rfl (by decide) ?_
                      refine x_iadd C 226 402 rfl ?_
                      obtain ⟨hi, h⟩ := h
                      refine x_sldL C 227 403 rt rfl hi ?_
                      refine x_aload_n C 228 404 rfl 0 rfl rfl ?_
                      refine x_iload_n C 229 405 rfl 3 rfl rfl ?_
                      refine x_iconst (v := (2 : Int32)) C 230 406 rfl (by decide) ?_
                      refine x_iadd C 231 407 rfl ?_
                      obtain ⟨hi, h⟩ := h
                      refine x_sldL C 232 408 rt rfl hi ?_
                      refine x_callGVI (ci := 7) (q0 := 0) (q := (RX9, TX9, 9)) C 233 409 (c_X9_graph (xl x) (xD x) (xk x) (xg x) aX aT aB aD aR aK aM aJ aV aW q1.2.1 q1.2.2.1 q1.2.2.2.1 q1.2.2.2.2.1 q1.2.2.2.2.2.1 q1.2.2.2.2.2.2.1 q1.2.2.2.2.2.2.2.1 q1.2.2.2.2.2.2.2.2.1 q1.2.2.2.2.2.2.2.2.2.1 q1.2.2.2.2.2.2.2.2.2.2.1 (xs (q1.1 + (1 : Int32)).toNatClampNeg) (xs (q1.1 + (2 : Int32)).toNatClampNeg) _ h) rfl wwGood (mem4 wq_23_9 wq_23_10 wq_23_11 wq_1_2) wq_23_12 2 ok_X9_graph rfl ⟨by decide, by decide⟩ (Nat.le_of_ble_eq_true rfl) ⟨by decide, by decide⟩ ⟨rfl, rfl⟩ rfl rfl [wdS (xk x) aS q1.2.2.2.2.2.2.2.2.2.2.2.1 q1.2.2.2.2.2.2.2.2.2.2.2.2] (fun (u : St × St) => [wdX (xk x) aX aT aB aD aR aK aM aV aW u.1, wdT (xk x) aT q1.2.2.1, wdB (xk x) aB q1.2.2.2.1, wdB (xk x) aD q1.2.2.2.2.1, wdR (xk x) aR q1.2.2.2.2.2.1, wdK (xk x) aK u.2, wdM (xk x) aM aJ q1.2.2.2.2.2.2.2.1, wdK (xk x) aJ q1.2.2.2.2.2.2.2.2.1, wdV (xk x) aV q1.2.2.2.2.2.2.2.2.2.1, wdW (xk x) aW q1.2.2.2.2.2.2.2.2.2.2.1, wdS (xk x) aS q1.2.2.2.2.2.2.2.2.2.2.2.1 q1.2.2.2.2.2.2.2.2.2.2.2.2]) [10, 0, 1, 2, 3, 4, 5, 6, 7, 8, 9] [1, 2, 3, 4, 5, 6, 7, 8, 9, 10, 0] (show List.Perm [10, 0, 1, 2, 3, 4, 5, 6, 7, 8, 9] (List.range 11) by decide) rfl 11 (fun _ => rfl) (by decide) (fun _ => rfl) (fun r44 u44 h => ?_)
                      refine x_aload_n C 234 412 rfl 2 rfl rfl ?_
                      refine x_aload_n C 235 413 rfl 0 rfl rfl ?_
                      refine x_iload_n C 236 414 rfl 3 rfl rfl ?_
                      refine x_iconst (v := (1 : Int32)) C 237 415 rfl (by decide) ?_
                      refine x_iadd C 238 416 rfl ?_
                      obtain ⟨hi, h⟩ := h
                      refine x_sldL C 239 417 rt rfl hi ?_
                      refine x_aload_n C 240 418 rfl 0 rfl rfl ?_
                      refine x_iload_n C 241 419 rfl 3 rfl rfl ?_
                      refine x_iconst (v := (2 : Int32)) C 242 420 rfl (by decide) ?_
                      refine x_iadd C 243 421 rfl ?_
                      obtain ⟨hi, h⟩ := h
                      refine x_sldL C 244 422 rt rfl hi ?_
                      refine x_callGVI (ci := 8) (q0 := 0) (q := (RX10, TX10, 34)) C 245 423 (c_X10_graph (xl x) (xD x) (xk x) (xg x) aS q1.2.2.2.2.2.2.2.2.2.2.2.1 q1.2.2.2.2.2.2.2.2.2.2.2.2 (xs (q1.1 + (1 : Int32)).toNatClampNeg) (xs (q1.1 + (2 : Int32)).toNatClampNeg) _ h) rfl wwGood (mem4 wq_24_8 wq_24_9 wq_24_10 wq_1_5) wq_24_11 2 ok_X10_graph rfl ⟨by decide, by decide⟩ (Nat.le_of_ble_eq_true rfl) ⟨by decide, by decide⟩ ⟨rfl, rfl⟩ rfl rfl [wdX (xk x) aX aT aB aD aR aK aM aV aW u44.1, wdT (xk x) aT q1.2.2.1, wdB (xk x) aB q1.2.2.2.1, wdB (xk x) aD q1.2.2.2.2.1, wdR (xk x) aR q1.2.2.2.2.2.1, wdK (xk x) aK u44.2, wdM (xk x) aM aJ q1.2.2.2.2.2.2.2.1, wdK (xk x) aJ q1.2.2.2.2.2.2.2.2.1, wdV (xk x) aV q1.2.2.2.2.2.2.2.2.2.1, wdW (xk x) aW q1.2.2.2.2.2.2.2.2.2.2.1] (fun (u : St) => [wdX (xk x) aX aT aB aD aR aK aM aV aW u44.1, wdT (xk x) aT q1.2.2.1, wdB (xk x) aB q1.2.2.2.1, wdB (xk x) aD q1.2.2.2.2.1, wdR (xk x) aR q1.2.2.2.2.2.1, wdK (xk x) aK u44.2, wdM (xk x) aM aJ q1.2.2.2.2.2.2.2.1, wdK (xk x) aJ q1.2.2.2.2.2.2.2.2.1, wdV (xk x) aV q1.2.2.2.2.2.2.2.2.2.1, wdW (xk x) aW q1.2.2.2.2.2.2.2.2.2.2.1, wdS (xk x) aS u q1.2.2.2.2.2.2.2.2.2.2.2.2]) [0, 1, 2, 3, 4, 5, 6, 7, 8, 9, 10] [0, 1, 2, 3, 4, 5, 6, 7, 8, 9, 10] (show List.Perm [0, 1, 2, 3, 4, 5, 6, 7, 8, 9, 10] (List.range 11) by decide) rfl 11 (fun _ => rfl) (by decide) (fun _ => rfl) (fun r45 u45 h => ?_)
                      refine x_icmp_eq C 246 426 837 rfl rfl (fun c46 => ?_) (fun c46 => ?_)
                      · replace h := h.1 c46
                        obtain ⟨y47, ey47⟩ : ∃ y : Int32, y = q1.1 + (5 : Int32) := ⟨_, rfl⟩
                        replace h := h y47 ey47
                        refine x_iinc (v := y47) (lv' := [(0, .ref b), (1, .ref (aX 0)), (2, .ref (aS 0)), (3, .int y47)]) C 565 837 rfl 3 rfl (by rw [ey47]; rfl) (by decide) [1, 2, 3, 0] rfl ?_
                        refine x_goto C 566 840 18 rfl rfl ?_
                        exact x_sub [0, 1, 2, 3] rfl (hR18 (y47, u44.1, q1.2.2.1, q1.2.2.2.1, q1.2.2.2.2.1, q1.2.2.2.2.2.1, u44.2, q1.2.2.2.2.2.2.2.1, q1.2.2.2.2.2.2.2.2.1, q1.2.2.2.2.2.2.2.2.2.1, q1.2.2.2.2.2.2.2.2.2.2.1, u45, q1.2.2.2.2.2.2.2.2.2.2.2.2) h)
                      · replace h := h.2 c46
                        refine x_iconst (v := (0 : Int32)) C 247 429 rfl (by decide) ?_
                        exact x_lawret C rt 248 430 rfl ⟨by decide, by decide⟩ h
                    · replace h := h.2 c43
                      by_cases c48 : (xs q1.1.toNatClampNeg &&& (31 : Int32)) = (9 : Int32)
                      · replace h := h.1 c48
                        refine x_tabIn C 21 32 431 9 rfl (9 : Int32) c48 (by decide) (by decide) rfl rfl ?_
                        refine x_aload_n C 249 431 rfl 1 rfl rfl ?_
                        refine x_aload_n C 250 432 rfl 0 rfl rfl ?_
                        refine x_iload_n C 251 433 rfl 3 rfl rfl ?_
                        refine x_iconst (v := (1 : Int32)) C 252 434 rfl (by decide) ?_
                        refine x_iadd C 253 435 rfl ?_
                        obtain ⟨hi, h⟩ := h
                        refine x_sldL C 254 436 rt rfl hi ?_
                        refine x_aload_n C 255 437 rfl 0 rfl rfl ?_
                        refine x_iload_n C 256 438 rfl 3 rfl rfl ?_
                        refine x_iconst (v := (2 : Int32)) C 257 439 rfl (by decide) ?_
                        refine x_iadd C 258 440 rfl ?_
                        obtain ⟨hi, h⟩ := h
                        refine x_sldL C 259 441 rt rfl hi ?_
                        refine x_callGVI (ci := 7) (q0 := 0) (q := (RX9, TX9, 9)) C 260 442 (c_X9_together (xl x) (xD x) (xk x) (xg x) aX aT aB aD aR aK aM aJ aV aW q1.2.1 q1.2.2.1 q1.2.2.2.1 q1.2.2.2.2.1 q1.2.2.2.2.2.1 q1.2.2.2.2.2.2.1 q1.2.2.2.2.2.2.2.1 q1.2.2.2.2.2.2.2.2.1 q1.2.2.2.2.2.2.2.2.2.1 q1.2.2.2.2.2.2.2.2.2.2.1 (xs (q1.1 + (1 : Int32)).toNatClampNeg) (xs (q1.1 + (2 : Int32)).toNatClampNeg) _ h) rfl wwGood (mem4 wq_25_1 wq_25_2 wq_25_3 wq_1_2) wq_25_4 2 ok_X9_together rfl ⟨by decide, by decide⟩ (Nat.le_of_ble_eq_true rfl) ⟨by decide, by decide⟩ ⟨rfl, rfl⟩ rfl rfl [wdS (xk x) aS q1.2.2.2.2.2.2.2.2.2.2.2.1 q1.2.2.2.2.2.2.2.2.2.2.2.2] (fun (u : Unit) => [wdX (xk x) aX aT aB aD aR aK aM aV aW q1.2.1, wdT (xk x) aT q1.2.2.1, wdB (xk x) aB q1.2.2.2.1, wdB (xk x) aD q1.2.2.2.2.1, wdR (xk x) aR q1.2.2.2.2.2.1, wdK (xk x) aK q1.2.2.2.2.2.2.1, wdM (xk x) aM aJ q1.2.2.2.2.2.2.2.1, wdK (xk x) aJ q1.2.2.2.2.2.2.2.2.1, wdV (xk x) aV q1.2.2.2.2.2.2.2.2.2.1, wdW (xk x) aW q1.2.2.2.2.2.2.2.2.2.2.1, wdS (xk x) aS q1.2.2.2.2.2.2.2.2.2.2.2.1 q1.2.2.2.2.2.2.2.2.2.2.2.2]) [10, 0, 1, 2, 3, 4, 5, 6, 7, 8, 9] [1, 2, 3, 4, 5, 6, 7, 8, 9, 10, 0] (show List.Perm [10, 0, 1, 2, 3, 4, 5, 6, 7, 8, 9] (List.range 11) by decide) rfl 11 (fun _ => rfl) (by decide) (fun _ => rfl) (fun r49 _ h => ?_)
                        refine x_aload_n C 261 445 rfl 2 rfl rfl ?_
                        refine x_aload_n C 262 446 rfl 0 rfl rfl ?_
                        refine x_iload_n C 263 447 rfl 3 rfl rfl ?_
                        refine x_iconst (v := (1 : Int32)) C 264 448 rfl (by decide) ?_
                        refine x_iadd C 265 449 rfl ?_
                        obtain ⟨hi, h⟩ := h
                        refine x_sldL C 266 450 rt rfl hi ?_
                        refine x_aload_n C 267 451 rfl 0 rfl rfl ?_
                        refine x_iload_n C 268 452 rfl 3 rfl rfl ?_
                        refine x_iconst (v := (2 : Int32)) C 269 453 rfl (by decide) ?_
                        refine x_iadd C 270 454 rfl ?_
                        obtain ⟨hi, h⟩ := h
                        refine x_sldL C 271 455 rt rfl hi ?_
                        refine x_callGVI (ci := 8) (q0 := 0) (q := (RX10, TX10, 34)) C 272 456 (c_X10_together (xl x) (xD x) (xk x) (xg x) aS q1.2.2.2.2.2.2.2.2.2.2.2.1 q1.2.2.2.2.2.2.2.2.2.2.2.2 (xs (q1.1 + (1 : Int32)).toNatClampNeg) (xs (q1.1 + (2 : Int32)).toNatClampNeg) _ h) rfl wwGood (mem4 wq_25_12 wq_25_13 wq_25_14 wq_1_5) wq_25_15 2 ok_X10_together rfl ⟨by decide, by decide⟩ (Nat.le_of_ble_eq_true rfl) ⟨by decide, by decide⟩ ⟨rfl, rfl⟩ rfl rfl [wdX (xk x) aX aT aB aD aR aK aM aV aW q1.2.1, wdT (xk x) aT q1.2.2.1, wdB (xk x) aB q1.2.2.2.1, wdB (xk x) aD q1.2.2.2.2.1, wdR (xk x) aR q1.2.2.2.2.2.1, wdK (xk x) aK q1.2.2.2.2.2.2.1, wdM (xk x) aM aJ q1.2.2.2.2.2.2.2.1, wdK (xk x) aJ q1.2.2.2.2.2.2.2.2.1, wdV (xk x) aV q1.2.2.2.2.2.2.2.2.2.1, wdW (xk x) aW q1.2.2.2.2.2.2.2.2.2.2.1] (fun (u : Unit) => [wdX (xk x) aX aT aB aD aR aK aM aV aW q1.2.1, wdT (xk x) aT q1.2.2.1, wdB (xk x) aB q1.2.2.2.1, wdB (xk x) aD q1.2.2.2.2.1, wdR (xk x) aR q1.2.2.2.2.2.1, wdK (xk x) aK q1.2.2.2.2.2.2.1, wdM (xk x) aM aJ q1.2.2.2.2.2.2.2.1, wdK (xk x) aJ q1.2.2.2.2.2.2.2.2.1, wdV (xk x) aV q1.2.2.2.2.2.2.2.2.2.1, wdW (xk x) aW q1.2.2.2.2.2.2.2.2.2.2.1, wdS (xk x) aS q1.2.2.2.2.2.2.2.2.2.2.2.1 q1.2.2.2.2.2.2.2.2.2.2.2.2]) [0, 1, 2, 3, 4, 5, 6, 7, 8, 9, 10] [0, 1, 2, 3, 4, 5, 6, 7, 8, 9, 10] (show List.Perm [0, 1, 2, 3, 4, 5, 6, 7, 8, 9, 10] (List.range 11) by decide) rfl 11 (fun _ => rfl) (by decide) (fun _ => rfl) (fun r50 _ h => ?_)
                        refine x_icmp_eq C 273 459 837 rfl rfl (fun c51 => ?_) (fun c51 => ?_)
                        · replace h := h.1 c51
                          obtain ⟨y52, ey52⟩ : ∃ y : Int32, y = q1.1 + (5 : Int32) := ⟨_, rfl⟩
                          replace h := h y52 ey52
                          refine x_iinc (v := y52) (lv' := [(0, .ref b), (1, .ref (aX 0)), (2, .ref (aS 0)), (3, .int y52)]) C 565 837 rfl 3 rfl (by rw [ey52]; rfl) (by decide) [1, 2, 3, 0] rfl ?_
                          refine x_goto C 566 840 18 rfl rfl ?_
                          exact x_sub [0, 1, 2, 3] rfl (hR18 (y52, q1.2.1, q1.2.2.1, q1.2.2.2.1, q1.2.2.2.2.1, q1.2.2.2.2.2.1, q1.2.2.2.2.2.2.1, q1.2.2.2.2.2.2.2.1, q1.2.2.2.2.2.2.2.2.1, q1.2.2.2.2.2.2.2.2.2.1, q1.2.2.2.2.2.2.2.2.2.2.1, q1.2.2.2.2.2.2.2.2.2.2.2.1, q1.2.2.2.2.2.2.2.2.2.2.2.2) h)
                        · replace h := h.2 c51
                          refine x_iconst (v := (0 : Int32)) C 274 462 rfl (by decide) ?_
                          exact x_lawret C rt 275 463 rfl ⟨by decide, by decide⟩ h
                      · replace h := h.2 c48
                        by_cases c53 : (xs q1.1.toNatClampNeg &&& (31 : Int32)) = (10 : Int32)
                        · replace h := h.1 c53
                          refine x_tabIn C 21 32 464 10 rfl (10 : Int32) c53 (by decide) (by decide) rfl rfl ?_
                          refine x_aload_n C 276 464 rfl 1 rfl rfl ?_
                          refine x_aload_n C 277 465 rfl 0 rfl rfl ?_
                          refine x_iload_n C 278 466 rfl 3 rfl rfl ?_
                          refine x_iconst (v := (1 : Int32)) C 279 467 rfl (by decide) ?_
                          refine x_iadd C 280 468 rfl ?_
                          obtain ⟨hi, h⟩ := h
                          refine x_sldL C 281 469 rt rfl hi ?_
                          refine x_callGVI (ci := 7) (q0 := 0) (q := (RX9, TX9, 9)) C 282 470 (c_X9_ends (xl x) (xD x) (xk x) (xg x) aX aT aB aD aR aK aM aJ aV aW q1.2.1 q1.2.2.1 q1.2.2.2.1 q1.2.2.2.2.1 q1.2.2.2.2.2.1 q1.2.2.2.2.2.2.1 q1.2.2.2.2.2.2.2.1 q1.2.2.2.2.2.2.2.2.1 q1.2.2.2.2.2.2.2.2.2.1 q1.2.2.2.2.2.2.2.2.2.2.1 (xs (q1.1 + (1 : Int32)).toNatClampNeg) _ h) rfl wwGood (mem4 wq_25_17 wq_25_18 wq_25_19 wq_1_2) wq_25_20 1 ok_X9_ends rfl ⟨by decide, by decide⟩ (Nat.le_of_ble_eq_true rfl) ⟨by decide, by decide⟩ ⟨rfl, rfl⟩ rfl rfl [wdS (xk x) aS q1.2.2.2.2.2.2.2.2.2.2.2.1 q1.2.2.2.2.2.2.2.2.2.2.2.2] (fun (u : St × St) => [wdX (xk x) aX aT aB aD aR aK aM aV aW u.1, wdT (xk x) aT q1.2.2.1, wdB (xk x) aB q1.2.2.2.1, wdB (xk x) aD q1.2.2.2.2.1, wdR (xk x) aR q1.2.2.2.2.2.1, wdK (xk x) aK u.2, wdM (xk x) aM aJ q1.2.2.2.2.2.2.2.1, wdK (xk x) aJ q1.2.2.2.2.2.2.2.2.1, wdV (xk x) aV q1.2.2.2.2.2.2.2.2.2.1, wdW (xk x) aW q1.2.2.2.2.2.2.2.2.2.2.1, wdS (xk x) aS q1.2.2.2.2.2.2.2.2.2.2.2.1 q1.2.2.2.2.2.2.2.2.2.2.2.2]) [10, 0, 1, 2, 3, 4, 5, 6, 7, 8, 9] [1, 2, 3, 4, 5, 6, 7, 8, 9, 10, 0] (show List.Perm [10, 0, 1, 2, 3, 4, 5, 6, 7, 8, 9] (List.range 11) by decide) rfl 11 (fun _ => rfl) (by decide) (fun _ => rfl) (fun r54 u54 h => ?_)
                          refine x_aload_n C 283 473 rfl 2 rfl rfl ?_
                          refine x_aload_n C 284 474 rfl 0 rfl rfl ?_
                          refine x_iload_n C 285 475 rfl 3 rfl rfl ?_
                          refine x_iconst (v := (1 : Int32)) C 286 476 rfl (by decide) ?_
                          refine x_iadd C 287 477 rfl ?_
                          obtain ⟨hi, h⟩ := h
                          refine x_sldL C 288 478 rt rfl hi ?_
                          refine x_callGVI (ci := 8) (q0 := 0) (q := (RX10, TX10, 34)) C 289 479 (c_X10_ends (xl x) (xD x) (xk x) (xg x) aS q1.2.2.2.2.2.2.2.2.2.2.2.1 q1.2.2.2.2.2.2.2.2.2.2.2.2 (xs (q1.1 + (1 : Int32)).toNatClampNeg) _ h) rfl wwGood (mem4 wq_25_22 wq_25_23 wq_26_0 wq_1_5) wq_26_1 1 ok_X10_ends rfl ⟨by decide, by decide⟩ (Nat.le_of_ble_eq_true rfl) ⟨by decide, by decide⟩ ⟨rfl, rfl⟩ rfl rfl [wdX (xk x) aX aT aB aD aR aK aM aV aW u54.1, wdT (xk x) aT q1.2.2.1, wdB (xk x) aB q1.2.2.2.1, wdB (xk x) aD q1.2.2.2.2.1, wdR (xk x) aR q1.2.2.2.2.2.1, wdK (xk x) aK u54.2, wdM (xk x) aM aJ q1.2.2.2.2.2.2.2.1, wdK (xk x) aJ q1.2.2.2.2.2.2.2.2.1, wdV (xk x) aV q1.2.2.2.2.2.2.2.2.2.1, wdW (xk x) aW q1.2.2.2.2.2.2.2.2.2.2.1] (fun (u : St) => [wdX (xk x) aX aT aB aD aR aK aM aV aW u54.1, wdT (xk x) aT q1.2.2.1, wdB (xk x) aB q1.2.2.2.1, wdB (xk x) aD q1.2.2.2.2.1, wdR (xk x) aR q1.2.2.2.2.2.1, wdK (xk x) aK u54.2, wdM (xk x) aM aJ q1.2.2.2.2.2.2.2.1, wdK (xk x) aJ q1.2.2.2.2.2.2.2.2.1, wdV (xk x) aV q1.2.2.2.2.2.2.2.2.2.1, wdW (xk x) aW q1.2.2.2.2.2.2.2.2.2.2.1, wdS (xk x) aS u q1.2.2.2.2.2.2.2.2.2.2.2.2]) [0, 1, 2, 3, 4, 5, 6, 7, 8, 9, 10] [0, 1, 2, 3, 4, 5, 6, 7, 8, 9, 10] (show List.Perm [0, 1, 2, 3, 4, 5, 6, 7, 8, 9, 10] (List.range 11) by decide) rfl 11 (fun _ => rfl) (by decide) (fun _ => rfl) (fun r55 u55 h => ?_)
                          refine x_icmp_eq C 290 482 837 rfl rfl (fun c56 => ?_) (fun c56 => ?_)
                          · replace h := h.1 c56
                            obtain ⟨y57, ey57⟩ : ∃ y : Int32, y = q1.1 + (5 : Int32) := ⟨_, rfl⟩
                            replace h := h y57 ey57
                            refine x_iinc (v := y57) (lv' := [(0, .ref b), (1, .ref (aX 0)), (2, .ref (aS 0)), (3, .int y57)]) C 565 837 rfl 3 rfl (by rw [ey57]; rfl) (by decide) [1, 2, 3, 0] rfl ?_
                            refine x_goto C 566 840 18 rfl rfl ?_
                            exact x_sub [0, 1, 2, 3] rfl (hR18 (y57, u54.1, q1.2.2.1, q1.2.2.2.1, q1.2.2.2.2.1, q1.2.2.2.2.2.1, u54.2, q1.2.2.2.2.2.2.2.1, q1.2.2.2.2.2.2.2.2.1, q1.2.2.2.2.2.2.2.2.2.1, q1.2.2.2.2.2.2.2.2.2.2.1, u55, q1.2.2.2.2.2.2.2.2.2.2.2.2) h)
                          · replace h := h.2 c56
                            refine x_iconst (v := (0 : Int32)) C 291 485 rfl (by decide) ?_
                            exact x_lawret C rt 292 486 rfl ⟨by decide, by decide⟩ h
                        · replace h := h.2 c53
                          by_cases c58 : (xs q1.1.toNatClampNeg &&& (31 : Int32)) = (11 : Int32)
                          · replace h := h.1 c58
                            refine x_tabIn C 21 32 487 11 rfl (11 : Int32) c58 (by decide) (by decide) rfl rfl ?_
                            refine x_aload_n C 293 487 rfl 1 rfl rfl ?_
                            refine x_aload_n C 294 488 rfl 0 rfl rfl ?_
                            refine x_iload_n C 295 489 rfl 3 rfl rfl ?_
                            refine x_iconst (v := (1 : Int32)) C 296 490 rfl (by decide) ?_
                            refine x_iadd C 297 491 rfl ?_
                            obtain ⟨hi, h⟩ := h
                            refine x_sldL C 298 492 rt rfl hi ?_
                            refine x_callGVI (ci := 7) (q0 := 0) (q := (RX9, TX9, 9)) C 299 493 (c_X9_shortest (xl x) (xD x) (xk x) (xg x) aX aT aB aD aR aK aM aJ aV aW q1.2.1 q1.2.2.1 q1.2.2.2.1 q1.2.2.2.2.1 q1.2.2.2.2.2.1 q1.2.2.2.2.2.2.1 q1.2.2.2.2.2.2.2.1 q1.2.2.2.2.2.2.2.2.1 q1.2.2.2.2.2.2.2.2.2.1 q1.2.2.2.2.2.2.2.2.2.2.1 (xs (q1.1 + (1 : Int32)).toNatClampNeg) _ h) rfl wwGood (mem4 wq_26_7 wq_26_8 wq_26_9 wq_1_2) wq_26_10 1 ok_X9_shortest rfl ⟨by decide, by decide⟩ (Nat.le_of_ble_eq_true rfl) ⟨by decide, by decide⟩ ⟨rfl, rfl⟩ rfl rfl [wdS (xk x) aS q1.2.2.2.2.2.2.2.2.2.2.2.1 q1.2.2.2.2.2.2.2.2.2.2.2.2] (fun (u : St × St) => [wdX (xk x) aX aT aB aD aR aK aM aV aW u.1, wdT (xk x) aT q1.2.2.1, wdB (xk x) aB q1.2.2.2.1, wdB (xk x) aD q1.2.2.2.2.1, wdR (xk x) aR q1.2.2.2.2.2.1, wdK (xk x) aK u.2, wdM (xk x) aM aJ q1.2.2.2.2.2.2.2.1, wdK (xk x) aJ q1.2.2.2.2.2.2.2.2.1, wdV (xk x) aV q1.2.2.2.2.2.2.2.2.2.1, wdW (xk x) aW q1.2.2.2.2.2.2.2.2.2.2.1, wdS (xk x) aS q1.2.2.2.2.2.2.2.2.2.2.2.1 q1.2.2.2.2.2.2.2.2.2.2.2.2]) [10, 0, 1, 2, 3, 4, 5, 6, 7, 8, 9] [1, 2, 3, 4, 5, 6, 7, 8, 9, 10, 0] (show List.Perm [10, 0, 1, 2, 3, 4, 5, 6, 7, 8, 9] (List.range 11) by decide) rfl 11 (fun _ => rfl) (by decide) (fun _ => rfl) (fun r59 u59 h => ?_)
                            refine x_aload_n C 300 496 rfl 2 rfl rfl ?_
                            refine x_aload_n C 301 497 rfl 0 rfl rfl ?_
                            refine x_iload_n C 302 498 rfl 3 rfl rfl ?_
                            refine x_iconst (v := (1 : Int32)) C 303 499 rfl (by decide) ?_
                            refine x_iadd C 304 500 rfl ?_
                            obtain ⟨hi, h⟩ := h
                            refine x_sldL C 305 501 rt rfl hi ?_
                            refine x_callGVI (ci := 8) (q0 := 0) (q := (RX10, TX10, 34)) C 306 502 (c_X10_shortest (xl x) (xD x) (xk x) (xg x) aS q1.2.2.2.2.2.2.2.2.2.2.2.1 q1.2.2.2.2.2.2.2.2.2.2.2.2 (xs (q1.1 + (1 : Int32)).toNatClampNeg) _ h) rfl wwGood (mem4 wq_26_21 wq_26_22 wq_26_23 wq_1_5) wq_27_0 1 ok_X10_shortest rfl ⟨by decide, by decide⟩ (Nat.le_of_ble_eq_true rfl) ⟨by decide, by decide⟩ ⟨rfl, rfl⟩ rfl rfl [wdX (xk x) aX aT aB aD aR aK aM aV aW u59.1, wdT (xk x) aT q1.2.2.1, wdB (xk x) aB q1.2.2.2.1, wdB (xk x) aD q1.2.2.2.2.1, wdR (xk x) aR q1.2.2.2.2.2.1, wdK (xk x) aK u59.2, wdM (xk x) aM aJ q1.2.2.2.2.2.2.2.1, wdK (xk x) aJ q1.2.2.2.2.2.2.2.2.1, wdV (xk x) aV q1.2.2.2.2.2.2.2.2.2.1, wdW (xk x) aW q1.2.2.2.2.2.2.2.2.2.2.1] (fun (u : St) => [wdX (xk x) aX aT aB aD aR aK aM aV aW u59.1, wdT (xk x) aT q1.2.2.1, wdB (xk x) aB q1.2.2.2.1, wdB (xk x) aD q1.2.2.2.2.1, wdR (xk x) aR q1.2.2.2.2.2.1, wdK (xk x) aK u59.2, wdM (xk x) aM aJ q1.2.2.2.2.2.2.2.1, wdK (xk x) aJ q1.2.2.2.2.2.2.2.2.1, wdV (xk x) aV q1.2.2.2.2.2.2.2.2.2.1, wdW (xk x) aW q1.2.2.2.2.2.2.2.2.2.2.1, wdS (xk x) aS u q1.2.2.2.2.2.2.2.2.2.2.2.2]) [0, 1, 2, 3, 4, 5, 6, 7, 8, 9, 10] [0, 1, 2, 3, 4, 5, 6, 7, 8, 9, 10] (show List.Perm [0, 1, 2, 3, 4, 5, 6, 7, 8, 9, 10] (List.range 11) by decide) rfl 11 (fun _ => rfl) (by decide) (fun _ => rfl) (fun r60 u60 h => ?_)
                            refine x_icmp_eq C 307 505 837 rfl rfl (fun c61 => ?_) (fun c61 => ?_)
                            · replace h := h.1 c61
                              obtain ⟨y62, ey62⟩ : ∃ y : Int32, y = q1.1 + (5 : Int32) := ⟨_, rfl⟩
                              replace h := h y62 ey62
                              refine x_iinc (v := y62) (lv' := [(0, .ref b), (1, .ref (aX 0)), (2, .ref (aS 0)), (3, .int y62)]) C 565 837 rfl 3 rfl (by rw [ey62]; rfl) (by decide) [1, 2, 3, 0] rfl ?_
                              refine x_goto C 566 840 18 rfl rfl ?_
                              exact x_sub [0, 1, 2, 3] rfl (hR18 (y62, u59.1, q1.2.2.1, q1.2.2.2.1, q1.2.2.2.2.1, q1.2.2.2.2.2.1, u59.2, q1.2.2.2.2.2.2.2.1, q1.2.2.2.2.2.2.2.2.1, q1.2.2.2.2.2.2.2.2.2.1, q1.2.2.2.2.2.2.2.2.2.2.1, u60, q1.2.2.2.2.2.2.2.2.2.2.2.2) h)
                            · replace h := h.2 c61
                              refine x_iconst (v := (0 : Int32)) C 308 508 rfl (by decide) ?_
                              exact x_lawret C rt 309 509 rfl ⟨by decide, by decide⟩ h
                          · replace h := h.2 c58
                            by_cases c63 : (xs q1.1.toNatClampNeg &&& (31 : Int32)) = (12 : Int32)
                            · replace h := h.1 c63
                              refine x_tabIn C 21 32 510 12 rfl (12 : Int32) c63 (by decide) (by decide) rfl rfl ?_
                              refine x_aload_n C 310 510 rfl 1 rfl rfl ?_
                              refine x_aload_n C 311 511 rfl 0 rfl rfl ?_
                              refine x_iload_n C 312 512 rfl 3 rfl rfl ?_
                              refine x_iconst (v := (1 : Int32)) C 313 513 rfl (by decide) ?_
                              refine x_iadd C 314 514 rfl ?_
                              obtain ⟨hi, h⟩ := h
                              refine x_sldL C 315 515 rt rfl hi ?_
                              refine x_callGVI (ci := 7) (q0 := 0) (q := (RX9, TX9, 9)) C 316 516 (c_X9_go (xl x) (xD x) (xk x) (xg x) aX aT aB aD aR aK aM aJ aV aW q1.2.1 q1.2.2.1 q1.2.2.2.1 q1.2.2.2.2.1 q1.2.2.2.2.2.1 q1.2.2.2.2.2.2.1 q1.2.2.2.2.2.2.2.1 q1.2.2.2.2.2.2.2.2.1 q1.2.2.2.2.2.2.2.2.2.1 q1.2.2.2.2.2.2.2.2.2.2.1 (xs (q1.1 + (1 : Int32)).toNatClampNeg) _ h) rfl wwGood (mem4 wq_27_6 wq_27_7 wq_27_8 wq_1_2) wq_27_9 1 ok_X9_go rfl ⟨by decide, by decide⟩ (Nat.le_of_ble_eq_true rfl) ⟨by decide, by decide⟩ ⟨rfl, rfl⟩ rfl rfl [wdS (xk x) aS q1.2.2.2.2.2.2.2.2.2.2.2.1 q1.2.2.2.2.2.2.2.2.2.2.2.2] (fun (u : St) => [wdX (xk x) aX aT aB aD aR aK aM aV aW q1.2.1, wdT (xk x) aT q1.2.2.1, wdB (xk x) aB q1.2.2.2.1, wdB (xk x) aD q1.2.2.2.2.1, wdR (xk x) aR u, wdK (xk x) aK q1.2.2.2.2.2.2.1, wdM (xk x) aM aJ q1.2.2.2.2.2.2.2.1, wdK (xk x) aJ q1.2.2.2.2.2.2.2.2.1, wdV (xk x) aV q1.2.2.2.2.2.2.2.2.2.1, wdW (xk x) aW q1.2.2.2.2.2.2.2.2.2.2.1, wdS (xk x) aS q1.2.2.2.2.2.2.2.2.2.2.2.1 q1.2.2.2.2.2.2.2.2.2.2.2.2]) [10, 0, 1, 2, 3, 4, 5, 6, 7, 8, 9] [1, 2, 3, 4, 5, 6, 7, 8, 9, 10, 0] (show List.Perm [10, 0, 1, 2, 3, 4, 5, 6, 7, 8, 9] (List.range 11) by decide) rfl 11 (fun _ => rfl) (by decide) (fun _ => rfl) (fun r64 u64 h => ?_)
                              refine x_aload_n C 317 519 rfl 2 rfl rfl ?_
                              refine x_aload_n C 318 520 rfl 0 rfl rfl ?_
                              refine x_iload_n C 319 521 rfl 3 rfl rfl ?_
                              refine x_iconst (v := (1 : Int32)) C 320 522 rfl (by decide) ?_
                              refine x_iadd C 321 523 rfl ?_
                              obtain ⟨hi, h⟩ := h
                              refine x_sldL C 322 524 rt rfl hi ?_
                              refine x_callGVI (ci := 8) (q0 := 0) (q := (RX10, TX10, 34)) C 323 525 (c_X10_go (xl x) (xD x) (xk x) (xg x) aS q1.2.2.2.2.2.2.2.2.2.2.2.1 q1.2.2.2.2.2.2.2.2.2.2.2.2 (xs (q1.1 + (1 : Int32)).toNatClampNeg) _ h) rfl wwGood (mem4 wq_27_21 wq_27_22 wq_27_23 wq_1_5) wq_28_0 1 ok_X10_go rfl ⟨by decide, by decide⟩ (Nat.le_of_ble_eq_true rfl) ⟨by decide, by decide⟩ ⟨rfl, rfl⟩ rfl rfl [wdX (xk x) aX aT aB aD aR aK aM aV aW q1.2.1, wdT (xk x) aT q1.2.2.1, wdB (xk x) aB q1.2.2.2.1, wdB (xk x) aD q1.2.2.2.2.1, wdR (xk x) aR u64, wdK (xk x) aK q1.2.2.2.2.2.2.1, wdM (xk x) aM aJ q1.2.2.2.2.2.2.2.1, wdK (xk x) aJ q1.2.2.2.2.2.2.2.2.1, wdV (xk x) aV q1.2.2.2.2.2.2.2.2.2.1, wdW (xk x) aW q1.2.2.2.2.2.2.2.2.2.2.1] (fun (u : St) => [wdX (xk x) aX aT aB aD aR aK aM aV aW q1.2.1, wdT (xk x) aT q1.2.2.1, wdB (xk x) aB q1.2.2.2.1, wdB (xk x) aD q1.2.2.2.2.1, wdR (xk x) aR u64, wdK (xk x) aK q1.2.2.2.2.2.2.1, wdM (xk x) aM aJ q1.2.2.2.2.2.2.2.1, wdK (xk x) aJ q1.2.2.2.2.2.2.2.2.1, wdV (xk x) aV q1.2.2.2.2.2.2.2.2.2.1, wdW (xk x) aW q1.2.2.2.2.2.2.2.2.2.2.1, wdS (xk x) aS u q1.2.2.2.2.2.2.2.2.2.2.2.2]) [0, 1, 2, 3, 4, 5, 6, 7, 8, 9, 10] [0, 1, 2, 3, 4, 5, 6, 7, 8, 9, 10] (show List.Perm [0, 1, 2, 3, 4, 5, 6, 7, 8, 9, 10] (List.range 11) by decide) rfl 11 (fun _ => rfl) (by decide) (fun _ => rfl) (fun r65 u65 h => ?_)
                              refine x_icmp_eq C 324 528 837 rfl rfl (fun c66 => ?_) (fun c66 => ?_)
                              · replace h := h.1 c66
                                obtain ⟨y67, ey67⟩ : ∃ y : Int32, y = q1.1 + (5 : Int32) := ⟨_, rfl⟩
                                replace h := h y67 ey67
                                refine x_iinc (v := y67) (lv' := [(0, .ref b), (1, .ref (aX 0)), (2, .ref (aS 0)), (3, .int y67)]) C 565 837 rfl 3 rfl (by rw [ey67]; rfl) (by decide) [1, 2, 3, 0] rfl ?_
                                refine x_goto C 566 840 18 rfl rfl ?_
                                exact x_sub [0, 1, 2, 3] rfl (hR18 (y67, q1.2.1, q1.2.2.1, q1.2.2.2.1, q1.2.2.2.2.1, u64, q1.2.2.2.2.2.2.1, q1.2.2.2.2.2.2.2.1, q1.2.2.2.2.2.2.2.2.1, q1.2.2.2.2.2.2.2.2.2.1, q1.2.2.2.2.2.2.2.2.2.2.1, u65, q1.2.2.2.2.2.2.2.2.2.2.2.2) h)
                              · replace h := h.2 c66
                                refine x_iconst (v := (0 : Int32)) C 325 531 rfl (by decide) ?_
                                exact x_lawret C rt 326 532 rfl ⟨by decide, by decide⟩ h
                            · replace h := h.2 c63
                              by_cases c68 : (xs q1.1.toNatClampNeg &&& (31 : Int32)) = (13 : Int32)
                              · replace h := h.1 c68
                                refine x_tabIn C 21 32 533 13 rfl (13 : Int32) c68 (by decide) (by decide) rfl rfl ?_
                                refine x_aload_n C 327 533 rfl 1 rfl rfl ?_
                                refine x_callGVI (ci := 7) (q0 := 0) (q := (RX9, TX9, 9)) C 328 534 (c_X9_anew (xl x) (xD x) (xk x) (xg x) aX aT aB aD aR aK aM aJ aV aW q1.2.1 q1.2.2.1 q1.2.2.2.1 q1.2.2.2.2.1 q1.2.2.2.2.2.1 q1.2.2.2.2.2.2.1 q1.2.2.2.2.2.2.2.1 q1.2.2.2.2.2.2.2.2.1 q1.2.2.2.2.2.2.2.2.2.1 q1.2.2.2.2.2.2.2.2.2.2.1 _ h) rfl wwGood (mem4 wq_28_1 wq_28_2 wq_28_3 wq_1_2) wq_28_4 0 ok_X9_anew rfl ⟨by decide, by decide⟩ (Nat.le_of_ble_eq_true rfl) ⟨by decide, by decide⟩ ⟨rfl, rfl⟩ rfl rfl [wdS (xk x) aS q1.2.2.2.2.2.2.2.2.2.2.2.1 q1.2.2.2.2.2.2.2.2.2.2.2.2] (fun (u : St) => [wdX (xk x) aX aT aB aD aR aK aM aV aW q1.2.1, wdT (xk x) aT q1.2.2.1, wdB (xk x) aB q1.2.2.2.1, wdB (xk x) aD q1.2.2.2.2.1, wdR (xk x) aR u, wdK (xk x) aK q1.2.2.2.2.2.2.1, wdM (xk x) aM aJ q1.2.2.2.2.2.2.2.1, wdK (xk x) aJ q1.2.2.2.2.2.2.2.2.1, wdV (xk x) aV q1.2.2.2.2.2.2.2.2.2.1, wdW (xk x) aW q1.2.2.2.2.2.2.2.2.2.2.1, wdS (xk x) aS q1.2.2.2.2.2.2.2.2.2.2.2.1 q1.2.2.2.2.2.2.2.2.2.2.2.2]) [10, 0, 1, 2, 3, 4, 5, 6, 7, 8, 9] [1, 2, 3, 4, 5, 6, 7, 8, 9, 10, 0] (show List.Perm [10, 0, 1, 2, 3, 4, 5, 6, 7, 8, 9] (List.range 11) by decide) rfl 11 (fun _ => rfl) (by decide) (fun _ => rfl) (fun r69 u69 h => ?_)
                                refine x_aload_n C 329 537 rfl 2 rfl rfl ?_
                                refine x_callGVI (ci := 8) (q0 := 0) (q := (RX10, TX10, 34)) C 330 538 (c_X10_anew (xl x) (xD x) (xk x) (xg x) aS q1.2.2.2.2.2.2.2.2.2.2.2.1 q1.2.2.2.2.2.2.2.2.2.2.2.2 _ h) rfl wwGood (mem4 wq_28_5 wq_28_6 wq_28_7 wq_1_5) wq_28_8 0 ok_X10_anew rfl ⟨by decide, by decide⟩ (Nat.le_of_ble_eq_true rfl) ⟨by decide, by decide⟩ ⟨rfl, rfl⟩ rfl rfl [wdX (xk x) aX aT aB aD aR aK aM aV aW q1.2.1, wdT (xk x) aT q1.2.2.1, wdB (xk x) aB q1.2.2.2.1, wdB (xk x) aD q1.2.2.2.2.1, wdR (xk x) aR u69, wdK (xk x) aK q1.2.2.2.2.2.2.1, wdM (xk x) aM aJ q1.2.2.2.2.2.2.2.1, wdK (xk x) aJ q1.2.2.2.2.2.2.2.2.1, wdV (xk x) aV q1.2.2.2.2.2.2.2.2.2.1, wdW (xk x) aW q1.2.2.2.2.2.2.2.2.2.2.1] (fun (u : St) => [wdX (xk x) aX aT aB aD aR aK aM aV aW q1.2.1, wdT (xk x) aT q1.2.2.1, wdB (xk x) aB q1.2.2.2.1, wdB (xk x) aD q1.2.2.2.2.1, wdR (xk x) aR u69, wdK (xk x) aK q1.2.2.2.2.2.2.1, wdM (xk x) aM aJ q1.2.2.2.2.2.2.2.1, wdK (xk x) aJ q1.2.2.2.2.2.2.2.2.1, wdV (xk x) aV q1.2.2.2.2.2.2.2.2.2.1, wdW (xk x) aW q1.2.2.2.2.2.2.2.2.2.2.1, wdS (xk x) aS u q1.2.2.2.2.2.2.2.2.2.2.2.2]) [0, 1, 2, 3, 4, 5, 6, 7, 8, 9, 10] [0, 1, 2, 3, 4, 5, 6, 7, 8, 9, 10] (show List.Perm [0, 1, 2, 3, 4, 5, 6, 7, 8, 9, 10] (List.range 11) by decide) rfl 11 (fun _ => rfl) (by decide) (fun _ => rfl) (fun r70 u70 h => ?_)
                                refine x_icmp_eq C 331 541 837 rfl rfl (fun c71 => ?_) (fun c71 => ?_)
                                · replace h := h.1 c71
                                  obtain ⟨y72, ey72⟩ : ∃ y : Int32, y = q1.1 + (5 : Int32) := ⟨_, rfl⟩
                                  replace h := h y72 ey72
                                  refine x_iinc (v := y72) (lv' := [(0, .ref b), (1, .ref (aX 0)), (2, .ref (aS 0)), (3, .int y72)]) C 565 837 rfl 3 rfl (by rw [ey72]; rfl) (by decide) [1, 2, 3, 0] rfl ?_
                                  refine x_goto C 566 840 18 rfl rfl ?_
                                  exact x_sub [0, 1, 2, 3] rfl (hR18 (y72, q1.2.1, q1.2.2.1, q1.2.2.2.1, q1.2.2.2.2.1, u69, q1.2.2.2.2.2.2.1, q1.2.2.2.2.2.2.2.1, q1.2.2.2.2.2.2.2.2.1, q1.2.2.2.2.2.2.2.2.2.1, q1.2.2.2.2.2.2.2.2.2.2.1, u70, q1.2.2.2.2.2.2.2.2.2.2.2.2) h)
                                · replace h := h.2 c71
                                  refine x_iconst (v := (0 : Int32)) C 332 544 rfl (by decide) ?_
                                  exact x_lawret C rt 333 545 rfl ⟨by decide, by decide⟩ h
                              · replace h := h.2 c68
                                by_cases c73 : (xs q1.1.toNatClampNeg &&& (31 : Int32)) = (14 : Int32)
                                · replace h := h.1 c73
                                  refine x_tabIn C 21 32 546 14 rfl (14 : Int32) c73 (by decide) (by decide) rfl rfl ?_
                                  refine x_aload_n C 334 546 rfl 1 rfl rfl ?_
                                  refine x_aload_n C 335 547 rfl 0 rfl rfl ?_
                                  refine x_iload_n C 336 548 rfl 3 rfl rfl ?_
                                  refine x_iconst (v := (1 : Int32)) C 337 549 rfl (by decide) ?_
                                  refine x_iadd C 338 550 rfl ?_
                                  obtain ⟨hi, h⟩ := h
                                  refine x_sldL C 339 551 rt rfl hi ?_
                                  refine x_callGVI (ci := 7) (q0 := 0) (q := (RX9, TX9, 9)) C 340 552 (c_X9_trip (xl x) (xD x) (xk x) (xg x) aX aT aB aD aR aK aM aJ aV aW q1.2.1 q1.2.2.1 q1.2.2.2.1 q1.2.2.2.2.1 q1.2.2.2.2.2.1 q1.2.2.2.2.2.2.1 q1.2.2.2.2.2.2.2.1 q1.2.2.2.2.2.2.2.2.1 q1.2.2.2.2.2.2.2.2.2.1 q1.2.2.2.2.2.2.2.2.2.2.1 (xs (q1.1 + (1 : Int32)).toNatClampNeg) _ h) rfl wwGood (mem4 wq_28_9 wq_28_10 wq_28_11 wq_1_2) wq_28_12 1 ok_X9_trip rfl ⟨by decide, by decide⟩ (Nat.le_of_ble_eq_true rfl) ⟨by decide, by decide⟩ ⟨rfl, rfl⟩ rfl rfl [wdS (xk x) aS q1.2.2.2.2.2.2.2.2.2.2.2.1 q1.2.2.2.2.2.2.2.2.2.2.2.2] (fun (u : Unit) => [wdX (xk x) aX aT aB aD aR aK aM aV aW q1.2.1, wdT (xk x) aT q1.2.2.1, wdB (xk x) aB q1.2.2.2.1, wdB (xk x) aD q1.2.2.2.2.1, wdR (xk x) aR q1.2.2.2.2.2.1, wdK (xk x) aK q1.2.2.2.2.2.2.1, wdM (xk x) aM aJ q1.2.2.2.2.2.2.2.1, wdK (xk x) aJ q1.2.2.2.2.2.2.2.2.1, wdV (xk x) aV q1.2.2.2.2.2.2.2.2.2.1, wdW (xk x) aW q1.2.2.2.2.2.2.2.2.2.2.1, wdS (xk x) aS q1.2.2.2.2.2.2.2.2.2.2.2.1 q1.2.2.2.2.2.2.2.2.2.2.2.2]) [10, 0, 1, 2, 3, 4, 5, 6, 7, 8, 9] [1, 2, 3, 4, 5, 6, 7, 8, 9, 10, 0] (show List.Perm [10, 0, 1, 2, 3, 4, 5, 6, 7, 8, 9] (List.range 11) by decide) rfl 11 (fun _ => rfl) (by decide) (fun _ => rfl) (fun r74 _ h => ?_)
                                  refine x_aload_n C 341 555 rfl 2 rfl rfl ?_
                                  refine x_aload_n C 342 556 rfl 0 rfl rfl ?_
                                  refine x_iload_n C 343 557 rfl 3 rfl rfl ?_
                                  refine x_iconst (v := (1 : Int32)) C 344 558 rfl (by decide) ?_
                                  refine x_iadd C 345 559 rfl ?_
                                  obtain ⟨hi, h⟩ := h
                                  refine x_sldL C 346 560 rt rfl hi ?_
                                  refine x_callGVI (ci := 8) (q0 := 0) (q := (RX10, TX10, 34)) C 347 561 (c_X10_trip (xl x) (xD x) (xk x) (xg x) aS q1.2.2.2.2.2.2.2.2.2.2.2.1 q1.2.2.2.2.2.2.2.2.2.2.2.2 (xs (q1.1 + (1 : Int32)).toNatClampNeg) _ h) rfl wwGood (mem4 wq_29_11 wq_29_12 wq_29_13 wq_1_5) wq_29_14 1 ok_X10_trip rfl ⟨by decide, by decide⟩ (Nat.le_of_ble_eq_true rfl) ⟨by decide, by decide⟩ ⟨rfl, rfl⟩ rfl rfl [wdX (xk x) aX aT aB aD aR aK aM aV aW q1.2.1, wdT (xk x) aT q1.2.2.1, wdB (xk x) aB q1.2.2.2.1, wdB (xk x) aD q1.2.2.2.2.1, wdR (xk x) aR q1.2.2.2.2.2.1, wdK (xk x) aK q1.2.2.2.2.2.2.1, wdM (xk x) aM aJ q1.2.2.2.2.2.2.2.1, wdK (xk x) aJ q1.2.2.2.2.2.2.2.2.1, wdV (xk x) aV q1.2.2.2.2.2.2.2.2.2.1, wdW (xk x) aW q1.2.2.2.2.2.2.2.2.2.2.1] (fun (u : Unit) => [wdX (xk x) aX aT aB aD aR aK aM aV aW q1.2.1, wdT (xk x) aT q1.2.2.1, wdB (xk x) aB q1.2.2.2.1, wdB (xk x) aD q1.2.2.2.2.1, wdR (xk x) aR q1.2.2.2.2.2.1, wdK (xk x) aK q1.2.2.2.2.2.2.1, wdM (xk x) aM aJ q1.2.2.2.2.2.2.2.1, wdK (xk x) aJ q1.2.2.2.2.2.2.2.2.1, wdV (xk x) aV q1.2.2.2.2.2.2.2.2.2.1, wdW (xk x) aW q1.2.2.2.2.2.2.2.2.2.2.1, wdS (xk x) aS q1.2.2.2.2.2.2.2.2.2.2.2.1 q1.2.2.2.2.2.2.2.2.2.2.2.2]) [0, 1, 2, 3, 4, 5, 6, 7, 8, 9, 10] [0, 1, 2, 3, 4, 5, 6, 7, 8, 9, 10] (show List.Perm [0, 1, 2, 3, 4, 5, 6, 7, 8, 9, 10] (List.range 11) by decide) rfl 11 (fun _ => rfl) (by decide) (fun _ => rfl) (fun r75 _ h => ?_)
                                  refine x_icmp_eq C 348 564 837 rfl rfl (fun c76 => ?_) (fun c76 => ?_)
                                  · replace h := h.1 c76
                                    obtain ⟨y77, ey77⟩ : ∃ y : Int32, y = q1.1 + (5 : Int32) := ⟨_, rfl⟩
                                    replace h := h y77 ey77
                                    refine x_iinc (v := y77) (lv' := [(0, .ref b), (1, .ref (aX 0)), (2, .ref (aS 0)), (3, .int y77)]) C 565 837 rfl 3 rfl (by rw [ey77]; rfl) (by decide) [1, 2, 3, 0] rfl ?_
                                    refine x_goto C 566 840 18 rfl rfl ?_
                                    exact x_sub [0, 1, 2, 3] rfl (hR18 (y77, q1.2.1, q1.2.2.1, q1.2.2.2.1, q1.2.2.2.2.1, q1.2.2.2.2.2.1, q1.2.2.2.2.2.2.1, q1.2.2.2.2.2.2.2.1, q1.2.2.2.2.2.2.2.2.1, q1.2.2.2.2.2.2.2.2.2.1, q1.2.2.2.2.2.2.2.2.2.2.1, q1.2.2.2.2.2.2.2.2.2.2.2.1, q1.2.2.2.2.2.2.2.2.2.2.2.2) h)
                                  · replace h := h.2 c76
                                    refine x_iconst (v := (0 : Int32)) C 349 567 rfl (by decide) ?_
                                    exact x_lawret C rt 350 568 rfl ⟨by decide, by decide⟩ h
                                · replace h := h.2 c73
                                  by_cases c78 : (xs q1.1.toNatClampNeg &&& (31 : Int32)) = (15 : Int32)
                                  · replace h := h.1 c78
                                    refine x_tabIn C 21 32 569 15 rfl (15 : Int32) c78 (by decide) (by decide) rfl rfl ?_
                                    refine x_aload_n C 351 569 rfl 1 rfl rfl ?_
                                    refine x_aload_n C 352 570 rfl 0 rfl rfl ?_
                                    refine x_iload_n C 353 571 rfl 3 rfl rfl ?_
                                    refine x_iconst (v := (1 : Int32)) C 354 572 rfl (by decide) ?_
                                    refine x_iadd C 355 573 rfl ?_
                                    obtain ⟨hi, h⟩ := h
                                    refine x_sldL C 356 574 rt rfl hi ?_
                                    refine x_callGVI (ci := 7) (q0 := 0) (q := (RX9, TX9, 9)) C 357 575 (c_X9_slow (xl x) (xD x) (xk x) (xg x) aX aT aB aD aR aK aM aJ aV aW q1.2.1 q1.2.2.1 q1.2.2.2.1 q1.2.2.2.2.1 q1.2.2.2.2.2.1 q1.2.2.2.2.2.2.1 q1.2.2.2.2.2.2.2.1 q1.2.2.2.2.2.2.2.2.1 q1.2.2.2.2.2.2.2.2.2.1 q1.2.2.2.2.2.2.2.2.2.2.1 (xs (q1.1 + (1 : Int32)).toNatClampNeg) _ h) rfl wwGood (mem4 wq_29_23 wq_30_0 wq_30_1 wq_1_2) wq_30_2 1 ok_X9_slow rfl ⟨by decide, by decide⟩ (Nat.le_of_ble_eq_true rfl) ⟨by decide, by decide⟩ ⟨rfl, rfl⟩ rfl rfl [wdS (xk x) aS q1.2.2.2.2.2.2.2.2.2.2.2.1 q1.2.2.2.2.2.2.2.2.2.2.2.2] (fun (u : St × St) => [wdX (xk x) aX aT aB aD aR aK aM aV aW u.1, wdT (xk x) aT q1.2.2.1, wdB (xk x) aB q1.2.2.2.1, wdB (xk x) aD q1.2.2.2.2.1, wdR (xk x) aR q1.2.2.2.2.2.1, wdK (xk x) aK u.2, wdM (xk x) aM aJ q1.2.2.2.2.2.2.2.1, wdK (xk x) aJ q1.2.2.2.2.2.2.2.2.1, wdV (xk x) aV q1.2.2.2.2.2.2.2.2.2.1, wdW (xk x) aW q1.2.2.2.2.2.2.2.2.2.2.1, wdS (xk x) aS q1.2.2.2.2.2.2.2.2.2.2.2.1 q1.2.2.2.2.2.2.2.2.2.2.2.2]) [10, 0, 1, 2, 3, 4, 5, 6, 7, 8, 9] [1, 2, 3, 4, 5, 6, 7, 8, 9, 10, 0] (show List.Perm [10, 0, 1, 2, 3, 4, 5, 6, 7, 8, 9] (List.range 11) by decide) rfl 11 (fun _ => rfl) (by decide) (fun _ => rfl) (fun r79 u79 h => ?_)
                                    refine x_aload_n C 358 578 rfl 2 rfl rfl ?_
                                    refine x_aload_n C 359 579 rfl 0 rfl rfl ?_
                                    refine x_iload_n C 360 580 rfl 3 rfl rfl ?_
                                    refine x_iconst (v := (1 : Int32)) C 361 581 rfl (by decide) ?_
                                    refine x_iadd C 362 582 rfl ?_
                                    obtain ⟨hi, h⟩ := h
                                    refine x_sldL C 363 583 rt rfl hi ?_
                                    refine x_callGVI (ci := 8) (q0 := 0) (q := (RX10, TX10, 34)) C 364 584 (c_X10_slow (xl x) (xD x) (xk x) (xg x) aS q1.2.2.2.2.2.2.2.2.2.2.2.1 q1.2.2.2.2.2.2.2.2.2.2.2.2 (xs (q1.1 + (1 : Int32)).toNatClampNeg) _ h) rfl wwGood (mem4 wq_30_16 wq_30_17 wq_30_18 wq_1_5) wq_30_19 1 ok_X10_slow rfl ⟨by decide, by decide⟩ (Nat.le_of_ble_eq_true rfl) ⟨by decide, by decide⟩ ⟨rfl, rfl⟩ rfl rfl [wdX (xk x) aX aT aB aD aR aK aM aV aW u79.1, wdT (xk x) aT q1.2.2.1, wdB (xk x) aB q1.2.2.2.1, wdB (xk x) aD q1.2.2.2.2.1, wdR (xk x) aR q1.2.2.2.2.2.1, wdK (xk x) aK u79.2, wdM (xk x) aM aJ q1.2.2.2.2.2.2.2.1, wdK (xk x) aJ q1.2.2.2.2.2.2.2.2.1, wdV (xk x) aV q1.2.2.2.2.2.2.2.2.2.1, wdW (xk x) aW q1.2.2.2.2.2.2.2.2.2.2.1] (fun (u : St) => [wdX (xk x) aX aT aB aD aR aK aM aV aW u79.1, wdT (xk x) aT q1.2.2.1, wdB (xk x) aB q1.2.2.2.1, wdB (xk x) aD q1.2.2.2.2.1, wdR (xk x) aR q1.2.2.2.2.2.1, wdK (xk x) aK u79.2, wdM (xk x) aM aJ q1.2.2.2.2.2.2.2.1, wdK (xk x) aJ q1.2.2.2.2.2.2.2.2.1, wdV (xk x) aV q1.2.2.2.2.2.2.2.2.2.1, wdW (xk x) aW q1.2.2.2.2.2.2.2.2.2.2.1, wdS (xk x) aS u q1.2.2.2.2.2.2.2.2.2.2.2.2]) [0, 1, 2, 3, 4, 5, 6, 7, 8, 9, 10] [0, 1, 2, 3, 4, 5, 6, 7, 8, 9, 10] (show List.Perm [0, 1, 2, 3, 4, 5, 6, 7, 8, 9, 10] (List.range 11) by decide) rfl 11 (fun _ => rfl) (by decide) (fun _ => rfl) (fun r80 u80 h => ?_)
                                    refine x_icmp_eq C 365 587 837 rfl rfl (fun c81 => ?_) (fun c81 => ?_)
                                    · replace h := h.1 c81
                                      obtain ⟨y82, ey82⟩ : ∃ y : Int32, y = q1.1 + (5 : Int32) := ⟨_, rfl⟩
                                      replace h := h y82 ey82
                                      refine x_iinc (v := y82) (lv' := [(0, .ref b), (1, .ref (aX 0)), (2, .ref (aS 0)), (3, .int y82)]) C 565 837 rfl 3 rfl (by rw [ey82]; rfl) (by decide) [1, 2, 3, 0] rfl ?_
                                      refine x_goto C 566 840 18 rfl rfl ?_
                                      exact x_sub [0, 1, 2, 3] rfl (hR18 (y82, u79.1, q1.2.2.1, q1.2.2.2.1, q1.2.2.2.2.1, q1.2.2.2.2.2.1, u79.2, q1.2.2.2.2.2.2.2.1, q1.2.2.2.2.2.2.2.2.1, q1.2.2.2.2.2.2.2.2.2.1, q1.2.2.2.2.2.2.2.2.2.2.1, u80, q1.2.2.2.2.2.2.2.2.2.2.2.2) h)
                                    · replace h := h.2 c81
                                      refine x_iconst (v := (0 : Int32)) C 366 590 rfl (by decide) ?_
                                      exact x_lawret C rt 367 591 rfl ⟨by decide, by decide⟩ h
                                  · replace h := h.2 c78
                                    by_cases c83 : (xs q1.1.toNatClampNeg &&& (31 : Int32)) = (16 : Int32)
                                    · replace h := h.1 c83
                                      refine x_tabIn C 21 32 592 16 rfl (16 : Int32) c83 (by decide) (by decide) rfl rfl ?_
                                      refine x_aload_n C 368 592 rfl 1 rfl rfl ?_
                                      refine x_aload_n C 369 593 rfl 0 rfl rfl ?_
                                      refine x_iload_n C 370 594 rfl 3 rfl rfl ?_
                                      refine x_iconst (v := (1 : Int32)) C 371 595 rfl (by decide) ?_
                                      refine x_iadd C 372 596 rfl ?_
                                      obtain ⟨hi, h⟩ := h
                                      refine x_sldL C 373 597 rt rfl hi ?_
                                      refine x_callGVI (ci := 7) (q0 := 0) (q := (RX9, TX9, 9)) C 374 598 (c_X9_mended (xl x) (xD x) (xk x) (xg x) aX aT aB aD aR aK aM aJ aV aW q1.2.1 q1.2.2.1 q1.2.2.2.1 q1.2.2.2.2.1 q1.2.2.2.2.2.1 q1.2.2.2.2.2.2.1 q1.2.2.2.2.2.2.2.1 q1.2.2.2.2.2.2.2.2.1 q1.2.2.2.2.2.2.2.2.2.1 q1.2.2.2.2.2.2.2.2.2.2.1 (xs (q1.1 + (1 : Int32)).toNatClampNeg) _ h) rfl wwGood (mem4 wq_31_4 wq_31_5 wq_31_6 wq_1_2) wq_31_7 1 ok_X9_mended rfl ⟨by decide, by decide⟩ (Nat.le_of_ble_eq_true rfl) ⟨by decide, by decide⟩ ⟨rfl, rfl⟩ rfl rfl [wdS (xk x) aS q1.2.2.2.2.2.2.2.2.2.2.2.1 q1.2.2.2.2.2.2.2.2.2.2.2.2] (fun (u : St × St × St × St) => [wdX (xk x) aX aT aB aD aR aK aM aV aW u.1, wdT (xk x) aT q1.2.2.1, wdB (xk x) aB q1.2.2.2.1, wdB (xk x) aD q1.2.2.2.2.1, wdR (xk x) aR q1.2.2.2.2.2.1, wdK (xk x) aK u.2.1, wdM (xk x) aM aJ u.2.2.1, wdK (xk x) aJ u.2.2.2, wdV (xk x) aV q1.2.2.2.2.2.2.2.2.2.1, wdW (xk x) aW q1.2.2.2.2.2.2.2.2.2.2.1, wdS (xk x) aS q1.2.2.2.2.2.2.2.2.2.2.2.1 q1.2.2.2.2.2.2.2.2.2.2.2.2]) [10, 0, 1, 2, 3, 4, 5, 6, 7, 8, 9] [1, 2, 3, 4, 5, 6, 7, 8, 9, 10, 0] (show List.Perm [10, 0, 1, 2, 3, 4, 5, 6, 7, 8, 9] (List.range 11) by decide) rfl 11 (fun _ => rfl) (by decide) (fun _ => rfl) (fun r84 u84 h => ?_)
                                      refine x_aload_n C 375 601 rfl 2 rfl rfl ?_
                                      refine x_aload_n C 376 602 rfl 0 rfl rfl ?_
                                      refine x_iload_n C 377 603 rfl 3 rfl rfl ?_
                                      refine x_iconst (v := (1 : Int32)) C 378 604 rfl (by decide) ?_
                                      refine x_iadd C 379 605 rfl ?_
                                      obtain ⟨hi, h⟩ := h
                                      refine x_sldL C 380 606 rt rfl hi ?_
                                      refine x_callGVI (ci := 8) (q0 := 0) (q := (RX10, TX10, 34)) C 381 607 (c_X10_mended (xl x) (xD x) (xk x) (xg x) aS q1.2.2.2.2.2.2.2.2.2.2.2.1 q1.2.2.2.2.2.2.2.2.2.2.2.2 (xs (q1.1 + (1 : Int32)).toNatClampNeg) _ h) rfl wwGood (mem4 wq_32_8 wq_32_9 wq_32_10 wq_1_5) wq_32_11 1 ok_X10_mended rfl ⟨by decide, by decide⟩ (Nat.le_of_ble_eq_true rfl) ⟨by decide, by decide⟩ ⟨rfl, rfl⟩ rfl rfl [wdX (xk x) aX aT aB aD aR aK aM aV aW u84.1, wdT (xk x) aT q1.2.2.1, wdB (xk x) aB q1.2.2.2.1, wdB (xk x) aD q1.2.2.2.2.1, wdR (xk x) aR q1.2.2.2.2.2.1, wdK (xk x) aK u84.2.1, wdM (xk x) aM aJ u84.2.2.1, wdK (xk x) aJ u84.2.2.2, wdV (xk x) aV q1.2.2.2.2.2.2.2.2.2.1, wdW (xk x) aW q1.2.2.2.2.2.2.2.2.2.2.1] (fun (u : St) => [wdX (xk x) aX aT aB aD aR aK aM aV aW u84.1, wdT (xk x) aT q1.2.2.1, wdB (xk x) aB q1.2.2.2.1, wdB (xk x) aD q1.2.2.2.2.1, wdR (xk x) aR q1.2.2.2.2.2.1, wdK (xk x) aK u84.2.1, wdM (xk x) aM aJ u84.2.2.1, wdK (xk x) aJ u84.2.2.2, wdV (xk x) aV q1.2.2.2.2.2.2.2.2.2.1, wdW (xk x) aW q1.2.2.2.2.2.2.2.2.2.2.1, wdS (xk x) aS u q1.2.2.2.2.2.2.2.2.2.2.2.2]) [0, 1, 2, 3, 4, 5, 6, 7, 8, 9, 10] [0, 1, 2, 3, 4, 5, 6, 7, 8, 9, 10] (show List.Perm [0, 1, 2, 3, 4, 5, 6, 7, 8, 9, 10] (List.range 11) by decide) rfl 11 (fun _ => rfl) (by decide) (fun _ => rfl) (fun r85 u85 h => ?_)
                                      refine x_icmp_eq C 382 610 837 rfl rfl (fun c86 => ?_) (fun c86 => ?_)
                                      · replace h := h.1 c86
                                        obtain ⟨y87, ey87⟩ : ∃ y : Int32, y = q1.1 + (5 : Int32) := ⟨_, rfl⟩
                                        replace h := h y87 ey87
                                        refine x_iinc (v := y87) (lv' := [(0, .ref b), (1, .ref (aX 0)), (2, .ref (aS 0)), (3, .int y87)]) C 565 837 rfl 3 rfl (by rw [ey87]; rfl) (by decide) [1, 2, 3, 0] rfl ?_
                                        refine x_goto C 566 840 18 rfl rfl ?_
                                        exact x_sub [0, 1, 2, 3] rfl (hR18 (y87, u84.1, q1.2.2.1, q1.2.2.2.1, q1.2.2.2.2.1, q1.2.2.2.2.2.1, u84.2.1, u84.2.2.1, u84.2.2.2, q1.2.2.2.2.2.2.2.2.2.1, q1.2.2.2.2.2.2.2.2.2.2.1, u85, q1.2.2.2.2.2.2.2.2.2.2.2.2) h)
                                      · replace h := h.2 c86
                                        refine x_iconst (v := (0 : Int32)) C 383 613 rfl (by decide) ?_
                                        exact x_lawret C rt 384 614 rfl ⟨by decide, by decide⟩ h
                                    · replace h := h.2 c83
                                      by_cases c88 : (xs q1.1.toNatClampNeg &&& (31 : Int32)) = (17 : Int32)
                                      · replace h := h.1 c88
                                        refine x_tabIn C 21 32 615 17 rfl (17 : Int32) c88 (by decide) (by decide) rfl rfl ?_
                                        refine x_aload_n C 385 615 rfl 1 rfl rfl ?_
                                        refine x_aload_n C 386 616 rfl 0 rfl rfl ?_
                                        refine x_iload_n C 387 617 rfl 3 rfl rfl ?_
                                        refine x_iconst (v := (1 : Int32)) C 388 618 rfl (by decide) ?_
                                        refine x_iadd C 389 619 rfl ?_
                                        obtain ⟨hi, h⟩ := h
                                        refine x_sldL C 390 620 rt rfl hi ?_
                                        refine x_callGVI (ci := 7) (q0 := 0) (q := (RX9, TX9, 9)) C 391 621 (c_X9_needed (xl x) (xD x) (xk x) (xg x) aX aT aB aD aR aK aM aJ aV aW q1.2.1 q1.2.2.1 q1.2.2.2.1 q1.2.2.2.2.1 q1.2.2.2.2.2.1 q1.2.2.2.2.2.2.1 q1.2.2.2.2.2.2.2.1 q1.2.2.2.2.2.2.2.2.1 q1.2.2.2.2.2.2.2.2.2.1 q1.2.2.2.2.2.2.2.2.2.2.1 (xs (q1.1 + (1 : Int32)).toNatClampNeg) _ h) rfl wwGood (mem4 wq_32_15 wq_32_16 wq_32_17 wq_1_2) wq_32_18 1 ok_X9_needed rfl ⟨by decide, by decide⟩ (Nat.le_of_ble_eq_true rfl) ⟨by decide, by decide⟩ ⟨rfl, rfl⟩ rfl rfl [wdS (xk x) aS q1.2.2.2.2.2.2.2.2.2.2.2.1 q1.2.2.2.2.2.2.2.2.2.2.2.2] (fun (u : St × St × St × St × St) => [wdX (xk x) aX aT aB aD aR aK aM aV aW u.1, wdT (xk x) aT q1.2.2.1, wdB (xk x) aB u.2.1, wdB (xk x) aD q1.2.2.2.2.1, wdR (xk x) aR q1.2.2.2.2.2.1, wdK (xk x) aK u.2.2.1, wdM (xk x) aM aJ u.2.2.2.1, wdK (xk x) aJ u.2.2.2.2, wdV (xk x) aV q1.2.2.2.2.2.2.2.2.2.1, wdW (xk x) aW q1.2.2.2.2.2.2.2.2.2.2.1, wdS (xk x) aS q1.2.2.2.2.2.2.2.2.2.2.2.1 q1.2.2.2.2.2.2.2.2.2.2.2.2]) [10, 0, 1, 2, 3, 4, 5, 6, 7, 8, 9] [1, 2, 3, 4, 5, 6, 7, 8, 9, 10, 0] (show List.Perm [10, 0, 1, 2, 3, 4, 5, 6, 7, 8, 9] (List.range 11) by decide) rfl 11 (fun _ => rfl) (by decide) (fun _ => rfl) (fun r89 u89 h => ?_)
                                        refine x_aload_n C 392 624 rfl 2 rfl rfl ?_
                                        refine x_aload_n C 393 625 rfl 0 rfl rfl ?_
                                        refine x_iload_n C 394 626 rfl 3 rfl rfl ?_
                                        refine x_iconst (v := (1 : Int32)) C 395 627 rfl (by decide) ?_
                                        refine x_iadd C 396 628 rfl ?_
                                        obtain ⟨hi, h⟩ := h
                                        refine x_sldL C 397 629 rt rfl hi ?_
                                        refine x_callGVI (ci := 8) (q0 := 0) (q := (RX10, TX10, 34)) C 398 630 (c_X10_needed (xl x) (xD x) (xk x) (xg x) aS q1.2.2.2.2.2.2.2.2.2.2.2.1 q1.2.2.2.2.2.2.2.2.2.2.2.2 (xs (q1.1 + (1 : Int32)).toNatClampNeg) _ h) rfl wwGood (mem4 wq_33_15 wq_33_16 wq_33_17 wq_1_5) wq_33_18 1 ok_X10_needed rfl ⟨by decide, by decide⟩ (Nat.le_of_ble_eq_true rfl) ⟨by decide, by decide⟩ ⟨rfl, rfl⟩ rfl rfl [wdX (xk x) aX aT aB aD aR aK aM aV aW u89.1, wdT (xk x) aT q1.2.2.1, wdB (xk x) aB u89.2.1, wdB (xk x) aD q1.2.2.2.2.1, wdR (xk x) aR q1.2.2.2.2.2.1, wdK (xk x) aK u89.2.2.1, wdM (xk x) aM aJ u89.2.2.2.1, wdK (xk x) aJ u89.2.2.2.2, wdV (xk x) aV q1.2.2.2.2.2.2.2.2.2.1, wdW (xk x) aW q1.2.2.2.2.2.2.2.2.2.2.1] (fun (u : St) => [wdX (xk x) aX aT aB aD aR aK aM aV aW u89.1, wdT (xk x) aT q1.2.2.1, wdB (xk x) aB u89.2.1, wdB (xk x) aD q1.2.2.2.2.1, wdR (xk x) aR q1.2.2.2.2.2.1, wdK (xk x) aK u89.2.2.1, wdM (xk x) aM aJ u89.2.2.2.1, wdK (xk x) aJ u89.2.2.2.2, wdV (xk x) aV q1.2.2.2.2.2.2.2.2.2.1, wdW (xk x) aW q1.2.2.2.2.2.2.2.2.2.2.1, wdS (xk x) aS u q1.2.2.2.2.2.2.2.2.2.2.2.2]) [0, 1, 2, 3, 4, 5, 6, 7, 8, 9, 10] [0, 1, 2, 3, 4, 5, 6, 7, 8, 9, 10] (show List.Perm [0, 1, 2, 3, 4, 5, 6, 7, 8, 9, 10] (List.range 11) by decide) rfl 11 (fun _ => rfl) (by decide) (fun _ => rfl) (fun r90 u90 h => ?_)
                                        refine x_icmp_eq C 399 633 837 rfl rfl (fun c91 => ?_) (fun c91 => ?_)
                                        · replace h := h.1 c91
                                          obtain ⟨y92, ey92⟩ : ∃ y : Int32, y = q1.1 + (5 : Int32) := ⟨_, rfl⟩
                                          replace h := h y92 ey92
                                          refine x_iinc (v := y92) (lv' := [(0, .ref b), (1, .ref (aX 0)), (2, .ref (aS 0)), (3, .int y92)]) C 565 837 rfl 3 rfl (by rw [ey92]; rfl) (by decide) [1, 2, 3, 0] rfl ?_
                                          refine x_goto C 566 840 18 rfl rfl ?_
                                          exact x_sub [0, 1, 2, 3] rfl (hR18 (y92, u89.1, q1.2.2.1, u89.2.1, q1.2.2.2.2.1, q1.2.2.2.2.2.1, u89.2.2.1, u89.2.2.2.1, u89.2.2.2.2, q1.2.2.2.2.2.2.2.2.2.1, q1.2.2.2.2.2.2.2.2.2.2.1, u90, q1.2.2.2.2.2.2.2.2.2.2.2.2) h)
                                        · replace h := h.2 c91
                                          refine x_iconst (v := (0 : Int32)) C 400 636 rfl (by decide) ?_
                                          exact x_lawret C rt 401 637 rfl ⟨by decide, by decide⟩ h
                                      · replace h := h.2 c88
                                        by_cases c93 : (xs q1.1.toNatClampNeg &&& (31 : Int32)) = (18 : Int32)
                                        · replace h := h.1 c93
                                          refine x_tabIn C 21 32 638 18 rfl (18 : Int32) c93 (by decide) (by decide) rfl rfl ?_
                                          refine x_aload_n C 402 638 rfl 1 rfl rfl ?_
                                          refine x_aload_n C 403 639 rfl 0 rfl rfl ?_
                                          refine x_iload_n C 404 640 rfl 3 rfl rfl ?_
                                          refine x_iconst (v := (1 : Int32)) C 405 641 rfl (by decide) ?_
                                          refine x_iadd C 406 642 rfl ?_
                                          obtain ⟨hi, h⟩ := h
                                          refine x_sldL C 407 643 rt rfl hi ?_
                                          refine x_callGVI (ci := 7) (q0 := 0) (q := (RX9, TX9, 9)) C 408 644 (c_X9_most (xl x) (xD x) (xk x) (xg x) aX aT aB aD aR aK aM aJ aV aW q1.2.1 q1.2.2.1 q1.2.2.2.1 q1.2.2.2.2.1 q1.2.2.2.2.2.1 q1.2.2.2.2.2.2.1 q1.2.2.2.2.2.2.2.1 q1.2.2.2.2.2.2.2.2.1 q1.2.2.2.2.2.2.2.2.2.1 q1.2.2.2.2.2.2.2.2.2.2.1 (xs (q1.1 + (1 : Int32)).toNatClampNeg) _ h) rfl wwGood (mem4 wq_33_19 wq_33_20 wq_33_21 wq_1_2) wq_33_22 1 ok_X9_most rfl ⟨by decide, by decide⟩ (Nat.le_of_ble_eq_true rfl) ⟨by decide, by decide⟩ ⟨rfl, rfl⟩ rfl rfl [wdS (xk x) aS q1.2.2.2.2.2.2.2.2.2.2.2.1 q1.2.2.2.2.2.2.2.2.2.2.2.2] (fun (u : St) => [wdX (xk x) aX aT aB aD aR aK aM aV aW q1.2.1, wdT (xk x) aT q1.2.2.1, wdB (xk x) aB q1.2.2.2.1, wdB (xk x) aD q1.2.2.2.2.1, wdR (xk x) aR q1.2.2.2.2.2.1, wdK (xk x) aK q1.2.2.2.2.2.2.1, wdM (xk x) aM aJ q1.2.2.2.2.2.2.2.1, wdK (xk x) aJ q1.2.2.2.2.2.2.2.2.1, wdV (xk x) aV u, wdW (xk x) aW q1.2.2.2.2.2.2.2.2.2.2.1, wdS (xk x) aS q1.2.2.2.2.2.2.2.2.2.2.2.1 q1.2.2.2.2.2.2.2.2.2.2.2.2]) [10, 0, 1, 2, 3, 4, 5, 6, 7, 8, 9] [1, 2, 3, 4, 5, 6, 7, 8, 9, 10, 0] (show List.Perm [10, 0, 1, 2, 3, 4, 5, 6, 7, 8, 9] (List.range 11) by decide) rfl 11 (fun _ => rfl) (by decide) (fun _ => rfl) (fun r94 u94 h => ?_)
                                          refine x_aload_n C 409 647 rfl 2 rfl rfl ?_
                                          refine x_aload_n C 410 648 rfl 0 rfl rfl ?_
                                          refine x_iload_n C 411 649 rfl 3 rfl rfl ?_
                                          refine x_iconst (v := (1 : Int32)) C 412 650 rfl (by decide) ?_
                                          refine x_iadd C 413 651 rfl ?_
                                          obtain ⟨hi, h⟩ := h
                                          refine x_sldL C 414 652 rt rfl hi ?_
                                          refine x_callGVI (ci := 8) (q0 := 0) (q := (RX10, TX10, 34)) C 415 653 (c_X10_most (xl x) (xD x) (xk x) (xg x) aS q1.2.2.2.2.2.2.2.2.2.2.2.1 q1.2.2.2.2.2.2.2.2.2.2.2.2 (xs (q1.1 + (1 : Int32)).toNatClampNeg) _ h) rfl wwGood (mem4 wq_34_0 wq_34_1 wq_34_2 wq_1_5) wq_34_3 1 ok_X10_most rfl ⟨by decide, by decide⟩ (Nat.le_of_ble_eq_true rfl) ⟨by decide, by decide⟩ ⟨rfl, rfl⟩ rfl rfl [wdX (xk x) aX aT aB aD aR aK aM aV aW q1.2.1, wdT (xk x) aT q1.2.2.1, wdB (xk x) aB q1.2.2.2.1, wdB (xk x) aD q1.2.2.2.2.1, wdR (xk x) aR q1.2.2.2.2.2.1, wdK (xk x) aK q1.2.2.2.2.2.2.1, wdM (xk x) aM aJ q1.2.2.2.2.2.2.2.1, wdK (xk x) aJ q1.2.2.2.2.2.2.2.2.1, wdV (xk x) aV u94, wdW (xk x) aW q1.2.2.2.2.2.2.2.2.2.2.1] (fun (u : St) => [wdX (xk x) aX aT aB aD aR aK aM aV aW q1.2.1, wdT (xk x) aT q1.2.2.1, wdB (xk x) aB q1.2.2.2.1, wdB (xk x) aD q1.2.2.2.2.1, wdR (xk x) aR q1.2.2.2.2.2.1, wdK (xk x) aK q1.2.2.2.2.2.2.1, wdM (xk x) aM aJ q1.2.2.2.2.2.2.2.1, wdK (xk x) aJ q1.2.2.2.2.2.2.2.2.1, wdV (xk x) aV u94, wdW (xk x) aW q1.2.2.2.2.2.2.2.2.2.2.1, wdS (xk x) aS u q1.2.2.2.2.2.2.2.2.2.2.2.2]) [0, 1, 2, 3, 4, 5, 6, 7, 8, 9, 10] [0, 1, 2, 3, 4, 5, 6, 7, 8, 9, 10] (show List.Perm [0, 1, 2, 3, 4, 5, 6, 7, 8, 9, 10] (List.range 11) by decide) rfl 11 (fun _ => rfl) (by decide) (fun _ => rfl) (fun r95 u95 h => ?_)
                                          refine x_icmp_eq C 416 656 837 rfl rfl (fun c96 => ?_) (fun c96 => ?_)
                                          · replace h := h.1 c96
                                            obtain ⟨y97, ey97⟩ : ∃ y : Int32, y = q1.1 + (5 : Int32) := ⟨_, rfl⟩
                                            replace h := h y97 ey97
                                            refine x_iinc (v := y97) (lv' := [(0, .ref b), (1, .ref (aX 0)), (2, .ref (aS 0)), (3, .int y97)]) C 565 837 rfl 3 rfl (by rw [ey97]; rfl) (by decide) [1, 2, 3, 0] rfl ?_
                                            refine x_goto C 566 840 18 rfl rfl ?_
                                            exact x_sub [0, 1, 2, 3] rfl (hR18 (y97, q1.2.1, q1.2.2.1, q1.2.2.2.1, q1.2.2.2.2.1, q1.2.2.2.2.2.1, q1.2.2.2.2.2.2.1, q1.2.2.2.2.2.2.2.1, q1.2.2.2.2.2.2.2.2.1, u94, q1.2.2.2.2.2.2.2.2.2.2.1, u95, q1.2.2.2.2.2.2.2.2.2.2.2.2) h)
                                          · replace h := h.2 c96
                                            refine x_iconst (v := (0 : Int32)) C 417 659 rfl (by decide) ?_
                                            exact x_lawret C rt 418 660 rfl ⟨by decide, by decide⟩ h
                                        · replace h := h.2 c93
                                          by_cases c98 : (xs q1.1.toNatClampNeg &&& (31 : Int32)) = (19 : Int32)
                                          · replace h := h.1 c98
                                            refine x_tabIn C 21 32 661 19 rfl (19 : Int32) c98 (by decide) (by decide) rfl rfl ?_
                                            refine x_aload_n C 419 661 rfl 1 rfl rfl ?_
                                            refine x_aload_n C 420 662 rfl 0 rfl rfl ?_
                                            refine x_iload_n C 421 663 rfl 3 rfl rfl ?_
                                            refine x_iconst (v := (1 : Int32)) C 422 664 rfl (by decide) ?_
                                            refine x_iadd C 423 665 rfl ?_
                                            obtain ⟨hi, h⟩ := h
                                            refine x_sldL C 424 666 rt rfl hi ?_
                                            refine x_aload_n C 425 667 rfl 0 rfl rfl ?_
                                            refine x_iload_n C 426 668 rfl 3 rfl rfl ?_
                                            refine x_iconst (v := (2 : Int32)) C 427 669 rfl (by decide) ?_
                                            refine x_iadd C 428 670 rfl ?_
                                            obtain ⟨hi, h⟩ := h
                                            refine x_sldL C 429 671 rt rfl hi ?_
                                            refine x_aload_n C 430 672 rfl 0 rfl rfl ?_
                                            refine x_iload_n C 431 673 rfl 3 rfl rfl ?_
                                            refine x_iconst (v := (3 : Int32)) C 432 674 rfl (by decide) ?_
                                            refine x_iadd C 433 675 rfl ?_
                                            obtain ⟨hi, h⟩ := h
                                            refine x_sldL C 434 676 rt rfl hi ?_
                                            refine x_aload_n C 435 677 rfl 0 rfl rfl ?_
                                            refine x_iload_n C 436 678 rfl 3 rfl rfl ?_
                                            refine x_iconst (v := (4 : Int32)) C 437 679 rfl (by decide) ?_
                                            refine x_iadd C 438 680 rfl ?_
                                            obtain ⟨hi, h⟩ := h
                                            refine x_sldL C 439 681 rt rfl hi ?_
                                            refine x_callGVI (ci := 7) (q0 := 0) (q := (RX9, TX9, 9)) C 440 682 (c_X9_longest (xl x) (xD x) (xk x) (xg x) aX aT aB aD aR aK aM aJ aV aW q1.2.1 q1.2.2.1 q1.2.2.2.1 q1.2.2.2.2.1 q1.2.2.2.2.2.1 q1.2.2.2.2.2.2.1 q1.2.2.2.2.2.2.2.1 q1.2.2.2.2.2.2.2.2.1 q1.2.2.2.2.2.2.2.2.2.1 q1.2.2.2.2.2.2.2.2.2.2.1 (xs (q1.1 + (1 : Int32)).toNatClampNeg) (xs (q1.1 + (2 : Int32)).toNatClampNeg) (xs (q1.1 + (3 : Int32)).toNatClampNeg) (xs (q1.1 + (4 : Int32)).toNatClampNeg) _ h) rfl wwGood (mem4 wq_34_4 wq_34_5 wq_34_6 wq_1_2) wq_34_7 4 ok_X9_longest rfl ⟨by decide, by decide⟩ (Nat.le_of_ble_eq_true rfl) ⟨by decide, by decide⟩ ⟨rfl, rfl⟩ rfl rfl [wdS (xk x) aS q1.2.2.2.2.2.2.2.2.2.2.2.1 q1.2.2.2.2.2.2.2.2.2.2.2.2] (fun (u : St) => [wdX (xk x) aX aT aB aD aR aK aM aV aW q1.2.1, wdT (xk x) aT q1.2.2.1, wdB (xk x) aB q1.2.2.2.1, wdB (xk x) aD q1.2.2.2.2.1, wdR (xk x) aR q1.2.2.2.2.2.1, wdK (xk x) aK q1.2.2.2.2.2.2.1, wdM (xk x) aM aJ q1.2.2.2.2.2.2.2.1, wdK (xk x) aJ q1.2.2.2.2.2.2.2.2.1, wdV (xk x) aV u, wdW (xk x) aW q1.2.2.2.2.2.2.2.2.2.2.1, wdS (xk x) aS q1.2.2.2.2.2.2.2.2.2.2.2.1 q1.2.2.2.2.2.2.2.2.2.2.2.2]) [10, 0, 1, 2, 3, 4, 5, 6, 7, 8, 9] [1, 2, 3, 4, 5, 6, 7, 8, 9, 10, 0] (show List.Perm [10, 0, 1, 2, 3, 4, 5, 6, 7, 8, 9] (List.range 11) by decide) rfl 11 (fun _ => rfl) (by decide) (fun _ => rfl) (fun r99 u99 h => ?_)
                                            refine x_aload_n C 441 685 rfl 2 rfl rfl ?_
                                            refine x_aload_n C 442 686 rfl 0 rfl rfl ?_
                                            refine x_iload_n C 443 687 rfl 3 rfl rfl ?_
                                            refine x_iconst (v := (1 : Int32)) C 444 688 rfl (by decide) ?_
                                            refine x_iadd C 445 689 rfl ?_
                                            obtain ⟨hi, h⟩ := h
                                            refine x_sldL C 446 690 rt rfl hi ?_
                                            refine x_aload_n C 447 691 rfl 0 rfl rfl ?_
                                            refine x_iload_n C 448 692 rfl 3 rfl rfl ?_
                                            refine x_iconst (v := (2 : Int32)) C 449 693 rfl (by decide) ?_
                                            refine x_iadd C 450 694 rfl ?_
                                            obtain ⟨hi, h⟩ := h
                                            refine x_sldL C 451 695 rt rfl hi ?_
                                            refine x_aload_n C 452 696 rfl 0 rfl rfl ?_
                                            refine x_iload_n C 453 697 rfl 3 rfl rfl ?_
                                            refine x_iconst (v := (3 : Int32)) C 454 698 rfl (by decide) ?_
                                            refine x_iadd C 455 699 rfl ?_
                                            obtain ⟨hi, h⟩ := h
                                            refine x_sldL C 456 700 rt rfl hi ?_
                                            refine x_aload_n C 457 701 rfl 0 rfl rfl ?_
                                            refine x_iload_n C 458 702 rfl 3 rfl rfl ?_
                                            refine x_iconst (v := (4 : Int32)) C 459 703 rfl (by decide) ?_
                                            refine x_iadd C 460 704 rfl ?_
                                            obtain ⟨hi, h⟩ := h
                                            refine x_sldL C 461 705 rt rfl hi ?_
                                            refine x_callGVI (ci := 8) (q0 := 0) (q := (RX10, TX10, 34)) C 462 706 (c_X10_longest (xl x) (xD x) (xk x) (xg x) aS q1.2.2.2.2.2.2.2.2.2.2.2.1 q1.2.2.2.2.2.2.2.2.2.2.2.2 (xs (q1.1 + (1 : Int32)).toNatClampNeg) (xs (q1.1 + (2 : Int32)).toNatClampNeg) (xs (q1.1 + (3 : Int32)).toNatClampNeg) (xs (q1.1 + (4 : Int32)).toNatClampNeg) _ h) rfl wwGood (mem4 wq_36_8 wq_36_9 wq_36_10 wq_1_5) wq_36_11 4 ok_X10_longest rfl ⟨by decide, by decide⟩ (Nat.le_of_ble_eq_true rfl) ⟨by decide, by decide⟩ ⟨rfl, rfl⟩ rfl rfl [wdX (xk x) aX aT aB aD aR aK aM aV aW q1.2.1, wdT (xk x) aT q1.2.2.1, wdB (xk x) aB q1.2.2.2.1, wdB (xk x) aD q1.2.2.2.2.1, wdR (xk x) aR q1.2.2.2.2.2.1, wdK (xk x) aK q1.2.2.2.2.2.2.1, wdM (xk x) aM aJ q1.2.2.2.2.2.2.2.1, wdK (xk x) aJ q1.2.2.2.2.2.2.2.2.1, wdV (xk x) aV u99, wdW (xk x) aW q1.2.2.2.2.2.2.2.2.2.2.1] (fun (u : St) => [wdX (xk x) aX aT aB aD aR aK aM aV aW q1.2.1, wdT (xk x) aT q1.2.2.1, wdB (xk x) aB q1.2.2.2.1, wdB (xk x) aD q1.2.2.2.2.1, wdR (xk x) aR q1.2.2.2.2.2.1, wdK (xk x) aK q1.2.2.2.2.2.2.1, wdM (xk x) aM aJ q1.2.2.2.2.2.2.2.1, wdK (xk x) aJ q1.2.2.2.2.2.2.2.2.1, wdV (xk x) aV u99, wdW (xk x) aW q1.2.2.2.2.2.2.2.2.2.2.1, wdS (xk x) aS u q1.2.2.2.2.2.2.2.2.2.2.2.2]) [0, 1, 2, 3, 4, 5, 6, 7, 8, 9, 10] [0, 1, 2, 3, 4, 5, 6, 7, 8, 9, 10] (show List.Perm [0, 1, 2, 3, 4, 5, 6, 7, 8, 9, 10] (List.range 11) by decide) rfl 11 (fun _ => rfl) (by decide) (fun _ => rfl) (fun r100 u100 h => ?_)
                                            refine x_icmp_eq C 463 709 837 rfl rfl (fun c101 => ?_) (fun c101 => ?_)
                                            · replace h := h.1 c101
                                              obtain ⟨y102, ey102⟩ : ∃ y : Int32, y = q1.1 + (5 : Int32) := ⟨_, rfl⟩
                                              replace h := h y102 ey102
                                              refine x_iinc (v := y102) (lv' := [(0, .ref b), (1, .ref (aX 0)), (2, .ref (aS 0)), (3, .int y102)]) C 565 837 rfl 3 rfl (by rw [ey102]; rfl) (by decide) [1, 2, 3, 0] rfl ?_
                                              refine x_goto C 566 840 18 rfl rfl ?_
                                              exact x_sub [0, 1, 2, 3] rfl (hR18 (y102, q1.2.1, q1.2.2.1, q1.2.2.2.1, q1.2.2.2.2.1, q1.2.2.2.2.2.1, q1.2.2.2.2.2.2.1, q1.2.2.2.2.2.2.2.1, q1.2.2.2.2.2.2.2.2.1, u99, q1.2.2.2.2.2.2.2.2.2.2.1, u100, q1.2.2.2.2.2.2.2.2.2.2.2.2) h)
                                            · replace h := h.2 c101
                                              refine x_iconst (v := (0 : Int32)) C 464 712 rfl (by decide) ?_
                                              exact x_lawret C rt 465 713 rfl ⟨by decide, by decide⟩ h
                                          · replace h := h.2 c98
                                            by_cases c103 : (xs q1.1.toNatClampNeg &&& (31 : Int32)) = (20 : Int32)
                                            · replace h := h.1 c103
                                              refine x_tabIn C 21 32 714 20 rfl (20 : Int32) c103 (by decide) (by decide) rfl rfl ?_
                                              refine x_aload_n C 466 714 rfl 1 rfl rfl ?_
                                              refine x_aload_n C 467 715 rfl 0 rfl rfl ?_
                                              refine x_iload_n C 468 716 rfl 3 rfl rfl ?_
                                              refine x_iconst (v := (1 : Int32)) C 469 717 rfl (by decide) ?_
                                              refine x_iadd C 470 718 rfl ?_
                                              obtain ⟨hi, h⟩ := h
                                              refine x_sldL C 471 719 rt rfl hi ?_
                                              refine x_aload_n C 472 720 rfl 0 rfl rfl ?_
                                              refine x_iload_n C 473 721 rfl 3 rfl rfl ?_
                                              refine x_iconst (v := (2 : Int32)) C 474 722 rfl (by decide) ?_
                                              refine x_iadd C 475 723 rfl ?_
                                              obtain ⟨hi, h⟩ := h
                                              refine x_sldL C 476 724 rt rfl hi ?_
                                              refine x_aload_n C 477 725 rfl 0 rfl rfl ?_
                                              refine x_iload_n C 478 726 rfl 3 rfl rfl ?_
                                              refine x_iconst (v := (3 : Int32)) C 479 727 rfl (by decide) ?_
                                              refine x_iadd C 480 728 rfl ?_
                                              obtain ⟨hi, h⟩ := h
                                              refine x_sldL C 481 729 rt rfl hi ?_
                                              refine x_aload_n C 482 730 rfl 0 rfl rfl ?_
                                              refine x_iload_n C 483 731 rfl 3 rfl rfl ?_
                                              refine x_iconst (v := (4 : Int32)) C 484 732 rfl (by decide) ?_
                                              refine x_iadd C 485 733 rfl ?_
                                              obtain ⟨hi, h⟩ := h
                                              refine x_sldL C 486 734 rt rfl hi ?_
                                              refine x_callGVI (ci := 7) (q0 := 0) (q := (RX9, TX9, 9)) C 487 735 (c_X9_next (xl x) (xD x) (xk x) (xg x) aX aT aB aD aR aK aM aJ aV aW q1.2.1 q1.2.2.1 q1.2.2.2.1 q1.2.2.2.2.1 q1.2.2.2.2.2.1 q1.2.2.2.2.2.2.1 q1.2.2.2.2.2.2.2.1 q1.2.2.2.2.2.2.2.2.1 q1.2.2.2.2.2.2.2.2.2.1 q1.2.2.2.2.2.2.2.2.2.2.1 (xs (q1.1 + (1 : Int32)).toNatClampNeg) (xs (q1.1 + (2 : Int32)).toNatClampNeg) (xs (q1.1 + (3 : Int32)).toNatClampNeg) (xs (q1.1 + (4 : Int32)).toNatClampNeg) _ h) rfl wwGood (mem4 wq_37_7 wq_37_8 wq_37_9 wq_1_2) wq_37_10 4 ok_X9_next rfl ⟨by decide, by decide⟩ (Nat.le_of_ble_eq_true rfl) ⟨by decide, by decide⟩ ⟨rfl, rfl⟩ rfl rfl [wdS (xk x) aS q1.2.2.2.2.2.2.2.2.2.2.2.1 q1.2.2.2.2.2.2.2.2.2.2.2.2] (fun (u : St) => [wdX (xk x) aX aT aB aD aR aK aM aV aW q1.2.1, wdT (xk x) aT q1.2.2.1, wdB (xk x) aB q1.2.2.2.1, wdB (xk x) aD q1.2.2.2.2.1, wdR (xk x) aR q1.2.2.2.2.2.1, wdK (xk x) aK q1.2.2.2.2.2.2.1, wdM (xk x) aM aJ q1.2.2.2.2.2.2.2.1, wdK (xk x) aJ q1.2.2.2.2.2.2.2.2.1, wdV (xk x) aV u, wdW (xk x) aW q1.2.2.2.2.2.2.2.2.2.2.1, wdS (xk x) aS q1.2.2.2.2.2.2.2.2.2.2.2.1 q1.2.2.2.2.2.2.2.2.2.2.2.2]) [10, 0, 1, 2, 3, 4, 5, 6, 7, 8, 9] [1, 2, 3, 4, 5, 6, 7, 8, 9, 10, 0] (show List.Perm [10, 0, 1, 2, 3, 4, 5, 6, 7, 8, 9] (List.range 11) by decide) rfl 11 (fun _ => rfl) (by decide) (fun _ => rfl) (fun r104 u104 h => ?_)
                                              refine x_aload_n C 488 738 rfl 2 rfl rfl ?_
                                              refine x_aload_n C 489 739 rfl 0 rfl rfl ?_
                                              refine x_iload_n C 490 740 rfl 3 rfl rfl ?_
                                              refine x_iconst (v := (1 : Int32)) C 491 741 rfl (by decide) ?_
                                              refine x_iadd C 492 742 rfl ?_
                                              obtain ⟨hi, h⟩ := h
                                              refine x_sldL C 493 743 rt rfl hi ?_
                                              refine x_aload_n C 494 744 rfl 0 rfl rfl ?_
                                              refine x_iload_n C 495 745 rfl 3 rfl rfl ?_
                                              refine x_iconst (v := (2 : Int32)) C 496 746 rfl (by decide) ?_
                                              refine x_iadd C 497 747 rfl ?_
                                              obtain ⟨hi, h⟩ := h
                                              refine x_sldL C 498 748 rt rfl hi ?_
                                              refine x_aload_n C 499 749 rfl 0 rfl rfl ?_
                                              refine x_iload_n C 500 750 rfl 3 rfl rfl ?_
                                              refine x_iconst (v := (3 : Int32)) C 501 751 rfl (by decide) ?_
                                              refine x_iadd C 502 752 rfl ?_
                                              obtain ⟨hi, h⟩ := h
                                              refine x_sldL C 503 753 rt rfl hi ?_
                                              refine x_aload_n C 504 754 rfl 0 rfl rfl ?_
                                              refine x_iload_n C 505 755 rfl 3 rfl rfl ?_
                                              refine x_iconst (v := (4 : Int32)) C 506 756 rfl (by decide) ?_
                                              refine x_iadd C 507 757 rfl ?_
                                              obtain ⟨hi, h⟩ := h
                                              refine x_sldL C 508 758 rt rfl hi ?_
                                              refine x_callGVI (ci := 8) (q0 := 0) (q := (RX10, TX10, 34)) C 509 759 (c_X10_next (xl x) (xD x) (xk x) (xg x) aS q1.2.2.2.2.2.2.2.2.2.2.2.1 q1.2.2.2.2.2.2.2.2.2.2.2.2 (xs (q1.1 + (1 : Int32)).toNatClampNeg) (xs (q1.1 + (2 : Int32)).toNatClampNeg) (xs (q1.1 + (3 : Int32)).toNatClampNeg) (xs (q1.1 + (4 : Int32)).toNatClampNeg) _ h) rfl wwGood (mem4 wq_37_23 wq_38_0 wq_38_1 wq_1_5) wq_38_2 4 ok_X10_next rfl ⟨by decide, by decide⟩ (Nat.le_of_ble_eq_true rfl) ⟨by decide, by decide⟩ ⟨rfl, rfl⟩ rfl rfl [wdX (xk x) aX aT aB aD aR aK aM aV aW q1.2.1, wdT (xk x) aT q1.2.2.1, wdB (xk x) aB q1.2.2.2.1, wdB (xk x) aD q1.2.2.2.2.1, wdR (xk x) aR q1.2.2.2.2.2.1, wdK (xk x) aK q1.2.2.2.2.2.2.1, wdM (xk x) aM aJ q1.2.2.2.2.2.2.2.1, wdK (xk x) aJ q1.2.2.2.2.2.2.2.2.1, wdV (xk x) aV u104, wdW (xk x) aW q1.2.2.2.2.2.2.2.2.2.2.1] (fun (u : Unit) => [wdX (xk x) aX aT aB aD aR aK aM aV aW q1.2.1, wdT (xk x) aT q1.2.2.1, wdB (xk x) aB q1.2.2.2.1, wdB (xk x) aD q1.2.2.2.2.1, wdR (xk x) aR q1.2.2.2.2.2.1, wdK (xk x) aK q1.2.2.2.2.2.2.1, wdM (xk x) aM aJ q1.2.2.2.2.2.2.2.1, wdK (xk x) aJ q1.2.2.2.2.2.2.2.2.1, wdV (xk x) aV u104, wdW (xk x) aW q1.2.2.2.2.2.2.2.2.2.2.1, wdS (xk x) aS q1.2.2.2.2.2.2.2.2.2.2.2.1 q1.2.2.2.2.2.2.2.2.2.2.2.2]) [0, 1, 2, 3, 4, 5, 6, 7, 8, 9, 10] [0, 1, 2, 3, 4, 5, 6, 7, 8, 9, 10] (show List.Perm [0, 1, 2, 3, 4, 5, 6, 7, 8, 9, 10] (List.range 11) by decide) rfl 11 (fun _ => rfl) (by decide) (fun _ => rfl) (fun r105 _ h => ?_)
                                              refine x_icmp_eq C 510 762 837 rfl rfl (fun c106 => ?_) (fun c106 => ?_)
                                              · replace h := h.1 c106
                                                obtain ⟨y107, ey107⟩ : ∃ y : Int32, y = q1.1 + (5 : Int32) := ⟨_, rfl⟩
                                                replace h := h y107 ey107
                                                refine x_iinc (v := y107) (lv' := [(0, .ref b), (1, .ref (aX 0)), (2, .ref (aS 0)), (3, .int y107)]) C 565 837 rfl 3 rfl (by rw [ey107]; rfl) (by decide) [1, 2, 3, 0] rfl ?_
                                                refine x_goto C 566 840 18 rfl rfl ?_
                                                exact x_sub [0, 1, 2, 3] rfl (hR18 (y107, q1.2.1, q1.2.2.1, q1.2.2.2.1, q1.2.2.2.2.1, q1.2.2.2.2.2.1, q1.2.2.2.2.2.2.1, q1.2.2.2.2.2.2.2.1, q1.2.2.2.2.2.2.2.2.1, u104, q1.2.2.2.2.2.2.2.2.2.2.1, q1.2.2.2.2.2.2.2.2.2.2.2.1, q1.2.2.2.2.2.2.2.2.2.2.2.2) h)
                                              · replace h := h.2 c106
                                                refine x_iconst (v := (0 : Int32)) C 511 765 rfl (by decide) ?_
                                                exact x_lawret C rt 512 766 rfl ⟨by decide, by decide⟩ h
                                            · replace h := h.2 c103
                                              by_cases c108 : (xs q1.1.toNatClampNeg &&& (31 : Int32)) = (21 : Int32)
                                              · replace h := h.1 c108
                                                refine x_tabIn C 21 32 767 21 rfl (21 : Int32) c108 (by decide) (by decide) rfl rfl ?_
                                                refine x_aload_n C 513 767 rfl 1 rfl rfl ?_
                                                refine x_aload_n C 514 768 rfl 0 rfl rfl ?_
                                                refine x_iload_n C 515 769 rfl 3 rfl rfl ?_
                                                refine x_iconst (v := (1 : Int32)) C 516 770 rfl (by decide) ?_
                                                refine x_iadd C 517 771 rfl ?_
                                                obtain ⟨hi, h⟩ := h
                                                refine x_sldL C 518 772 rt rfl hi ?_
                                                refine x_aload_n C 519 773 rfl 0 rfl rfl ?_
                                                refine x_iload_n C 520 774 rfl 3 rfl rfl ?_
                                                refine x_iconst (v := (2 : Int32)) C 521 775 rfl (by decide) ?_
                                                refine x_iadd C 522 776 rfl ?_
                                                obtain ⟨hi, h⟩ := h
                                                refine x_sldL C 523 777 rt rfl hi ?_
                                                refine x_callGVI (ci := 7) (q0 := 0) (q := (RX9, TX9, 9)) C 524 778 (c_X9_weight (xl x) (xD x) (xk x) (xg x) aX aT aB aD aR aK aM aJ aV aW q1.2.1 q1.2.2.1 q1.2.2.2.1 q1.2.2.2.2.1 q1.2.2.2.2.2.1 q1.2.2.2.2.2.2.1 q1.2.2.2.2.2.2.2.1 q1.2.2.2.2.2.2.2.2.1 q1.2.2.2.2.2.2.2.2.2.1 q1.2.2.2.2.2.2.2.2.2.2.1 (xs (q1.1 + (1 : Int32)).toNatClampNeg) (xs (q1.1 + (2 : Int32)).toNatClampNeg) _ h) rfl wwGood (mem4 wq_38_3 wq_38_4 wq_38_5 wq_1_2) wq_38_6 2 ok_X9_weight rfl ⟨by decide, by decide⟩ (Nat.le_of_ble_eq_true rfl) ⟨by decide, by decide⟩ ⟨rfl, rfl⟩ rfl rfl [wdS (xk x) aS q1.2.2.2.2.2.2.2.2.2.2.2.1 q1.2.2.2.2.2.2.2.2.2.2.2.2] (fun (u : Int64) => [wdX (xk x) aX aT aB aD aR aK aM aV aW q1.2.1, wdT (xk x) aT q1.2.2.1, wdB (xk x) aB q1.2.2.2.1, wdB (xk x) aD q1.2.2.2.2.1, wdR (xk x) aR q1.2.2.2.2.2.1, wdK (xk x) aK q1.2.2.2.2.2.2.1, wdM (xk x) aM aJ q1.2.2.2.2.2.2.2.1, wdK (xk x) aJ q1.2.2.2.2.2.2.2.2.1, wdV (xk x) aV q1.2.2.2.2.2.2.2.2.2.1, wdW (xk x) aW u, wdS (xk x) aS q1.2.2.2.2.2.2.2.2.2.2.2.1 q1.2.2.2.2.2.2.2.2.2.2.2.2]) [10, 0, 1, 2, 3, 4, 5, 6, 7, 8, 9] [1, 2, 3, 4, 5, 6, 7, 8, 9, 10, 0] (show List.Perm [10, 0, 1, 2, 3, 4, 5, 6, 7, 8, 9] (List.range 11) by decide) rfl 11 (fun _ => rfl) (by decide) (fun _ => rfl) (fun r109 u109 h => ?_)
                                                refine x_aload_n C 525 781 rfl 2 rfl rfl ?_
                                                refine x_aload_n C 526 782 rfl 0 rfl rfl ?_
                                                refine x_iload_n C 527 783 rfl 3 rfl rfl ?_
                                                refine x_iconst (v := (1 : Int32)) C 528 784 rfl (by decide) ?_
                                                refine x_iadd C 529 785 rfl ?_
                                                obtain ⟨hi, h⟩ := h
                                                refine x_sldL C 530 786 rt rfl hi ?_
                                                refine x_aload_n C 531 787 rfl 0 rfl rfl ?_
                                                refine x_iload_n C 532 788 rfl 3 rfl rfl ?_
                                                refine x_iconst (v := (2 : Int32)) C 533 789 rfl (by decide) ?_
                                                refine x_iadd C 534 790 rfl ?_
                                                obtain ⟨hi, h⟩ := h
                                                refine x_sldL C 535 791 rt rfl hi ?_
                                                refine x_callGVI (ci := 8) (q0 := 0) (q := (RX10, TX10, 34)) C 536 792 (c_X10_weight (xl x) (xD x) (xk x) (xg x) aS q1.2.2.2.2.2.2.2.2.2.2.2.1 q1.2.2.2.2.2.2.2.2.2.2.2.2 (xs (q1.1 + (1 : Int32)).toNatClampNeg) (xs (q1.1 + (2 : Int32)).toNatClampNeg) _ h) rfl wwGood (mem4 wq_39_20 wq_39_21 wq_39_22 wq_1_5) wq_39_23 2 ok_X10_weight rfl ⟨by decide, by decide⟩ (Nat.le_of_ble_eq_true rfl) ⟨by decide, by decide⟩ ⟨rfl, rfl⟩ rfl rfl [wdX (xk x) aX aT aB aD aR aK aM aV aW q1.2.1, wdT (xk x) aT q1.2.2.1, wdB (xk x) aB q1.2.2.2.1, wdB (xk x) aD q1.2.2.2.2.1, wdR (xk x) aR q1.2.2.2.2.2.1, wdK (xk x) aK q1.2.2.2.2.2.2.1, wdM (xk x) aM aJ q1.2.2.2.2.2.2.2.1, wdK (xk x) aJ q1.2.2.2.2.2.2.2.2.1, wdV (xk x) aV q1.2.2.2.2.2.2.2.2.2.1, wdW (xk x) aW u109] (fun (u : Int64) => [wdX (xk x) aX aT aB aD aR aK aM aV aW q1.2.1, wdT (xk x) aT q1.2.2.1, wdB (xk x) aB q1.2.2.2.1, wdB (xk x) aD q1.2.2.2.2.1, wdR (xk x) aR q1.2.2.2.2.2.1, wdK (xk x) aK q1.2.2.2.2.2.2.1, wdM (xk x) aM aJ q1.2.2.2.2.2.2.2.1, wdK (xk x) aJ q1.2.2.2.2.2.2.2.2.1, wdV (xk x) aV q1.2.2.2.2.2.2.2.2.2.1, wdW (xk x) aW u109, wdS (xk x) aS q1.2.2.2.2.2.2.2.2.2.2.2.1 u]) [0, 1, 2, 3, 4, 5, 6, 7, 8, 9, 10] [0, 1, 2, 3, 4, 5, 6, 7, 8, 9, 10] (show List.Perm [0, 1, 2, 3, 4, 5, 6, 7, 8, 9, 10] (List.range 11) by decide) rfl 11 (fun _ => rfl) (by decide) (fun _ => rfl) (fun r110 u110 h => ?_)
                                                refine x_icmp_eq C 537 795 837 rfl rfl (fun c111 => ?_) (fun c111 => ?_)
                                                · replace h := h.1 c111
                                                  obtain ⟨y112, ey112⟩ : ∃ y : Int32, y = q1.1 + (5 : Int32) := ⟨_, rfl⟩
                                                  replace h := h y112 ey112
                                                  refine x_iinc (v := y112) (lv' := [(0, .ref b), (1, .ref (aX 0)), (2, .ref (aS 0)), (3, .int y112)]) C 565 837 rfl 3 rfl (by rw [ey112]; rfl) (by decide) [1, 2, 3, 0] rfl ?_
                                                  refine x_goto C 566 840 18 rfl rfl ?_
                                                  exact x_sub [0, 1, 2, 3] rfl (hR18 (y112, q1.2.1, q1.2.2.1, q1.2.2.2.1, q1.2.2.2.2.1, q1.2.2.2.2.2.1, q1.2.2.2.2.2.2.1, q1.2.2.2.2.2.2.2.1, q1.2.2.2.2.2.2.2.2.1, q1.2.2.2.2.2.2.2.2.2.1, u109, q1.2.2.2.2.2.2.2.2.2.2.2.1, u110) h)
                                                · replace h := h.2 c111
                                                  refine x_iconst (v := (0 : Int32)) C 538 798 rfl (by decide) ?_
                                                  exact x_lawret C rt 539 799 rfl ⟨by decide, by decide⟩ h
                                              · replace h := h.2 c108
                                                by_cases c113 : (xs q1.1.toNatClampNeg &&& (31 : Int32)) = (22 : Int32)
                                                · replace h := h.1 c113
                                                  refine x_tabIn C 21 32 800 22 rfl (22 : Int32) c113 (by decide) (by decide) rfl rfl ?_
                                                  refine x_aload_n C 540 800 rfl 1 rfl rfl ?_
                                                  refine x_aload_n C 541 801 rfl 0 rfl rfl ?_
                                                  refine x_iload_n C 542 802 rfl 3 rfl rfl ?_
                                                  refine x_iconst (v := (1 : Int32)) C 543 803 rfl (by decide) ?_
                                                  refine x_iadd C 544 804 rfl ?_
                                                  obtain ⟨hi, h⟩ := h
                                                  refine x_sldL C 545 805 rt rfl hi ?_
                                                  refine x_callGVI (ci := 7) (q0 := 0) (q := (RX9, TX9, 9)) C 546 806 (c_X9_count (xl x) (xD x) (xk x) (xg x) aX aT aB aD aR aK aM aJ aV aW q1.2.1 q1.2.2.1 q1.2.2.2.1 q1.2.2.2.2.1 q1.2.2.2.2.2.1 q1.2.2.2.2.2.2.1 q1.2.2.2.2.2.2.2.1 q1.2.2.2.2.2.2.2.2.1 q1.2.2.2.2.2.2.2.2.2.1 q1.2.2.2.2.2.2.2.2.2.2.1 (xs (q1.1 + (1 : Int32)).toNatClampNeg) _ h) rfl wwGood (mem4 wq_40_21 wq_40_22 wq_40_23 wq_1_2) wq_41_0 1 ok_X9_count rfl ⟨by decide, by decide⟩ (Nat.le_of_ble_eq_true rfl) ⟨by decide, by decide⟩ ⟨rfl, rfl⟩ rfl rfl [wdS (xk x) aS q1.2.2.2.2.2.2.2.2.2.2.2.1 q1.2.2.2.2.2.2.2.2.2.2.2.2] (fun (u : Unit) => [wdX (xk x) aX aT aB aD aR aK aM aV aW q1.2.1, wdT (xk x) aT q1.2.2.1, wdB (xk x) aB q1.2.2.2.1, wdB (xk x) aD q1.2.2.2.2.1, wdR (xk x) aR q1.2.2.2.2.2.1, wdK (xk x) aK q1.2.2.2.2.2.2.1, wdM (xk x) aM aJ q1.2.2.2.2.2.2.2.1, wdK (xk x) aJ q1.2.2.2.2.2.2.2.2.1, wdV (xk x) aV q1.2.2.2.2.2.2.2.2.2.1, wdW (xk x) aW q1.2.2.2.2.2.2.2.2.2.2.1, wdS (xk x) aS q1.2.2.2.2.2.2.2.2.2.2.2.1 q1.2.2.2.2.2.2.2.2.2.2.2.2]) [10, 0, 1, 2, 3, 4, 5, 6, 7, 8, 9] [1, 2, 3, 4, 5, 6, 7, 8, 9, 10, 0] (show List.Perm [10, 0, 1, 2, 3, 4, 5, 6, 7, 8, 9] (List.range 11) by decide) rfl 11 (fun _ => rfl) (by decide) (fun _ => rfl) (fun r114 _ h => ?_)
                                                  refine x_aload_n C 547 809 rfl 2 rfl rfl ?_
                                                  refine x_aload_n C 548 810 rfl 0 rfl rfl ?_
                                                  refine x_iload_n C 549 811 rfl 3 rfl rfl ?_
                                                  refine x_iconst (v := (1 : Int32)) C 550 812 rfl (by decide) ?_
                                                  refine x_iadd C 551 813 rfl ?_
                                                  obtain ⟨hi, h⟩ := h
                                                  refine x_sldL C 552 814 rt rfl hi ?_
                                                  refine x_callGVI (ci := 8) (q0 := 0) (q := (RX10, TX10, 34)) C 553 815 (c_X10_count (xl x) (xD x) (xk x) (xg x) aS q1.2.2.2.2.2.2.2.2.2.2.2.1 q1.2.2.2.2.2.2.2.2.2.2.2.2 (xs (q1.1 + (1 : Int32)).toNatClampNeg) _ h) rfl wwGood (mem4 wq_41_11 wq_41_12 wq_41_13 wq_1_5) wq_41_14 1 ok_X10_count rfl ⟨by decide, by decide⟩ (Nat.le_of_ble_eq_true rfl) ⟨by decide, by decide⟩ ⟨rfl, rfl⟩ rfl rfl [wdX (xk x) aX aT aB aD aR aK aM aV aW q1.2.1, wdT (xk x) aT q1.2.2.1, wdB (xk x) aB q1.2.2.2.1, wdB (xk x) aD q1.2.2.2.2.1, wdR (xk x) aR q1.2.2.2.2.2.1, wdK (xk x) aK q1.2.2.2.2.2.2.1, wdM (xk x) aM aJ q1.2.2.2.2.2.2.2.1, wdK (xk x) aJ q1.2.2.2.2.2.2.2.2.1, wdV (xk x) aV q1.2.2.2.2.2.2.2.2.2.1, wdW (xk x) aW q1.2.2.2.2.2.2.2.2.2.2.1] (fun (u : Unit) => [wdX (xk x) aX aT aB aD aR aK aM aV aW q1.2.1, wdT (xk x) aT q1.2.2.1, wdB (xk x) aB q1.2.2.2.1, wdB (xk x) aD q1.2.2.2.2.1, wdR (xk x) aR q1.2.2.2.2.2.1, wdK (xk x) aK q1.2.2.2.2.2.2.1, wdM (xk x) aM aJ q1.2.2.2.2.2.2.2.1, wdK (xk x) aJ q1.2.2.2.2.2.2.2.2.1, wdV (xk x) aV q1.2.2.2.2.2.2.2.2.2.1, wdW (xk x) aW q1.2.2.2.2.2.2.2.2.2.2.1, wdS (xk x) aS q1.2.2.2.2.2.2.2.2.2.2.2.1 q1.2.2.2.2.2.2.2.2.2.2.2.2]) [0, 1, 2, 3, 4, 5, 6, 7, 8, 9, 10] [0, 1, 2, 3, 4, 5, 6, 7, 8, 9, 10] (show List.Perm [0, 1, 2, 3, 4, 5, 6, 7, 8, 9, 10] (List.range 11) by decide) rfl 11 (fun _ => rfl) (by decide) (fun _ => rfl) (fun r115 _ h => ?_)
                                                  refine x_icmp_eq C 554 818 837 rfl rfl (fun c116 => ?_) (fun c116 => ?_)
                                                  · replace h := h.1 c116
                                                    obtain ⟨y117, ey117⟩ : ∃ y : Int32, y = q1.1 + (5 : Int32) := ⟨_, rfl⟩
                                                    replace h := h y117 ey117
                                                    refine x_iinc (v := y117) (lv' := [(0, .ref b), (1, .ref (aX 0)), (2, .ref (aS 0)), (3, .int y117)]) C 565 837 rfl 3 rfl (by rw [ey117]; rfl) (by decide) [1, 2, 3, 0] rfl ?_
                                                    refine x_goto C 566 840 18 rfl rfl ?_
                                                    exact x_sub [0, 1, 2, 3] rfl (hR18 (y117, q1.2.1, q1.2.2.1, q1.2.2.2.1, q1.2.2.2.2.1, q1.2.2.2.2.2.1, q1.2.2.2.2.2.2.1, q1.2.2.2.2.2.2.2.1, q1.2.2.2.2.2.2.2.2.1, q1.2.2.2.2.2.2.2.2.2.1, q1.2.2.2.2.2.2.2.2.2.2.1, q1.2.2.2.2.2.2.2.2.2.2.2.1, q1.2.2.2.2.2.2.2.2.2.2.2.2) h)
                                                  · replace h := h.2 c116
                                                    refine x_iconst (v := (0 : Int32)) C 555 821 rfl (by decide) ?_
                                                    exact x_lawret C rt 556 822 rfl ⟨by decide, by decide⟩ h
                                                · replace h := h.2 c113
                                                  by_cases c118 : (xs q1.1.toNatClampNeg &&& (31 : Int32)) = (23 : Int32)
                                                  · replace h := h.1 c118
                                                    refine x_tabIn C 21 32 823 23 rfl (23 : Int32) c118 (by decide) (by decide) rfl rfl ?_
                                                    refine x_aload_n C 557 823 rfl 1 rfl rfl ?_
                                                    refine x_callGVL (ci := 7) (q0 := 0) (q := (RX9, TX9, 9)) C 558 824 (c_X9_trace (xl x) (xD x) (xk x) (xg x) aX aT aB aD aR aK aM aJ aV aW q1.2.1 q1.2.2.1 q1.2.2.2.1 q1.2.2.2.2.1 q1.2.2.2.2.2.1 q1.2.2.2.2.2.2.1 q1.2.2.2.2.2.2.2.1 q1.2.2.2.2.2.2.2.2.1 q1.2.2.2.2.2.2.2.2.2.1 q1.2.2.2.2.2.2.2.2.2.2.1 _ h) rfl wwGood (mem4 wq_41_15 wq_41_16 wq_41_17 wq_1_2) wq_41_18 0 ok_X9_trace rfl ⟨by decide, by decide⟩ (Nat.le_of_ble_eq_true rfl) ⟨by decide, by decide⟩ ⟨rfl, rfl⟩ rfl rfl [wdS (xk x) aS q1.2.2.2.2.2.2.2.2.2.2.2.1 q1.2.2.2.2.2.2.2.2.2.2.2.2] (fun (u : Unit) => [wdX (xk x) aX aT aB aD aR aK aM aV aW q1.2.1, wdT (xk x) aT q1.2.2.1, wdB (xk x) aB q1.2.2.2.1, wdB (xk x) aD q1.2.2.2.2.1, wdR (xk x) aR q1.2.2.2.2.2.1, wdK (xk x) aK q1.2.2.2.2.2.2.1, wdM (xk x) aM aJ q1.2.2.2.2.2.2.2.1, wdK (xk x) aJ q1.2.2.2.2.2.2.2.2.1, wdV (xk x) aV q1.2.2.2.2.2.2.2.2.2.1, wdW (xk x) aW q1.2.2.2.2.2.2.2.2.2.2.1, wdS (xk x) aS q1.2.2.2.2.2.2.2.2.2.2.2.1 q1.2.2.2.2.2.2.2.2.2.2.2.2]) [10, 0, 1, 2, 3, 4, 5, 6, 7, 8, 9] [1, 2, 3, 4, 5, 6, 7, 8, 9, 10, 0] (show List.Perm [10, 0, 1, 2, 3, 4, 5, 6, 7, 8, 9] (List.range 11) by decide) rfl 11 (fun _ => rfl) (by decide) (fun _ => rfl) (fun r119 _ h => ?_)
                                                    refine x_aload_n C 559 827 rfl 2 rfl rfl ?_
                                                    refine x_callGVL (ci := 8) (q0 := 0) (q := (RX10, TX10, 34)) C 560 828 (c_X10_trace (xl x) (xD x) (xk x) (xg x) aS q1.2.2.2.2.2.2.2.2.2.2.2.1 q1.2.2.2.2.2.2.2.2.2.2.2.2 _ h) rfl wwGood (mem4 wq_41_20 wq_41_21 wq_41_22 wq_1_5) wq_41_23 0 ok_X10_trace rfl ⟨by decide, by decide⟩ (Nat.le_of_ble_eq_true rfl) ⟨by decide, by decide⟩ ⟨rfl, rfl⟩ rfl rfl [wdX (xk x) aX aT aB aD aR aK aM aV aW q1.2.1, wdT (xk x) aT q1.2.2.1, wdB (xk x) aB q1.2.2.2.1, wdB (xk x) aD q1.2.2.2.2.1, wdR (xk x) aR q1.2.2.2.2.2.1, wdK (xk x) aK q1.2.2.2.2.2.2.1, wdM (xk x) aM aJ q1.2.2.2.2.2.2.2.1, wdK (xk x) aJ q1.2.2.2.2.2.2.2.2.1, wdV (xk x) aV q1.2.2.2.2.2.2.2.2.2.1, wdW (xk x) aW q1.2.2.2.2.2.2.2.2.2.2.1] (fun (u : Unit) => [wdX (xk x) aX aT aB aD aR aK aM aV aW q1.2.1, wdT (xk x) aT q1.2.2.1, wdB (xk x) aB q1.2.2.2.1, wdB (xk x) aD q1.2.2.2.2.1, wdR (xk x) aR q1.2.2.2.2.2.1, wdK (xk x) aK q1.2.2.2.2.2.2.1, wdM (xk x) aM aJ q1.2.2.2.2.2.2.2.1, wdK (xk x) aJ q1.2.2.2.2.2.2.2.2.1, wdV (xk x) aV q1.2.2.2.2.2.2.2.2.2.1, wdW (xk x) aW q1.2.2.2.2.2.2.2.2.2.2.1, wdS (xk x) aS q1.2.2.2.2.2.2.2.2.2.2.2.1 q1.2.2.2.2.2.2.2.2.2.2.2.2]) [0, 1, 2, 3, 4, 5, 6, 7, 8, 9, 10] [0, 1, 2, 3, 4, 5, 6, 7, 8, 9, 10] (show List.Perm [0, 1, 2, 3, 4, 5, 6, 7, 8, 9, 10] (List.range 11) by decide) rfl 11 (fun _ => rfl) (by decide) (fun _ => rfl) (fun r120 _ h => ?_)
                                                    refine x_lcmp C 561 831 rfl ?_
                                                    refine x_if_eq C 562 832 837 rfl rfl (fun c121 => ?_) (fun c121 => ?_)
                                                    · replace h := h.1 c121
                                                      obtain ⟨y122, ey122⟩ : ∃ y : Int32, y = q1.1 + (5 : Int32) := ⟨_, rfl⟩
                                                      replace h := h y122 ey122
                                                      refine x_iinc (v := y122) (lv' := [(0, .ref b), (1, .ref (aX 0)), (2, .ref (aS 0)), (3, .int y122)]) C 565 837 rfl 3 rfl (by rw [ey122]; rfl) (by decide) [1, 2, 3, 0] rfl ?_
                                                      refine x_goto C 566 840 18 rfl rfl ?_
                                                      exact x_sub [0, 1, 2, 3] rfl (hR18 (y122, q1.2.1, q1.2.2.1, q1.2.2.2.1, q1.2.2.2.2.1, q1.2.2.2.2.2.1, q1.2.2.2.2.2.2.1, q1.2.2.2.2.2.2.2.1, q1.2.2.2.2.2.2.2.2.1, q1.2.2.2.2.2.2.2.2.2.1, q1.2.2.2.2.2.2.2.2.2.2.1, q1.2.2.2.2.2.2.2.2.2.2.2.1, q1.2.2.2.2.2.2.2.2.2.2.2.2) h)
                                                    · replace h := h.2 c121
                                                      refine x_iconst (v := (0 : Int32)) C 563 835 rfl (by decide) ?_
                                                      exact x_lawret C rt 564 836 rfl ⟨by decide, by decide⟩ h
                                                  · replace h := h.2 c118
                                                    have nc3 := ne_toInt c3
                                                    have nc8 := ne_toInt c8
                                                    have nc13 := ne_toInt c13
                                                    have nc18 := ne_toInt c18
                                                    have nc23 := ne_toInt c23
                                                    have nc28 := ne_toInt c28
                                                    have nc33 := ne_toInt c33
                                                    have nc38 := ne_toInt c38
                                                    have nc43 := ne_toInt c43
                                                    have nc48 := ne_toInt c48
                                                    have nc53 := ne_toInt c53
                                                    have nc58 := ne_toInt c58
                                                    have nc63 := ne_toInt c63
                                                    have nc68 := ne_toInt c68
                                                    have nc73 := ne_toInt c73
                                                    have nc78 := ne_toInt c78
                                                    have nc83 := ne_toInt c83
                                                    have nc88 := ne_toInt c88
                                                    have nc93 := ne_toInt c93
                                                    have nc98 := ne_toInt c98
                                                    have nc103 := ne_toInt c103
                                                    have nc108 := ne_toInt c108
                                                    have nc113 := ne_toInt c113
                                                    have nc118 := ne_toInt c118
                                                    refine x_tabOut C 21 32 837 rfl (by have zc3 : (0 : Int32).toInt = 0 := (by decide); rw [zc3] at nc3; have zc8 : (1 : Int32).toInt = 1 := (by decide); rw [zc8] at nc8; have zc13 : (2 : Int32).toInt = 2 := (by decide); rw [zc13] at nc13; have zc18 : (3 : Int32).toInt = 3 := (by decide); rw [zc18] at nc18; have zc23 : (4 : Int32).toInt = 4 := (by decide); rw [zc23] at nc23; have zc28 : (5 : Int32).toInt = 5 := (by decide); rw [zc28] at nc28; have zc33 : (6 : Int32).toInt = 6 := (by decide); rw [zc33] at nc33; have zc38 : (7 : Int32).toInt = 7 := (by decide); rw [zc38] at nc38; have zc43 : (8 : Int32).toInt = 8 := (by decide); rw [zc43] at nc43; have zc48 : (9 : Int32).toInt = 9 := (by decide); rw [zc48] at nc48; have zc53 : (10 : Int32).toInt = 10 := (by decide); rw [zc53] at nc53; have zc58 : (11 : Int32).toInt = 11 := (by decide); rw [zc58] at nc58; have zc63 : (12 : Int32).toInt = 12 := (by decide); rw [zc63] at nc63; have zc68 : (13 : Int32).toInt = 13 := (by decide); rw [zc68] at nc68; have zc73 : (14 : Int32).toInt = 14 := (by decide); rw [zc73] at nc73; have zc78 : (15 : Int32).toInt = 15 := (by decide); rw [zc78] at nc78; have zc83 : (16 : Int32).toInt = 16 := (by decide); rw [zc83] at nc83; have zc88 : (17 : Int32).toInt = 17 := (by decide); rw [zc88] at nc88; have zc93 : (18 : Int32).toInt = 18 := (by decide); rw [zc93] at nc93; have zc98 : (19 : Int32).toInt = 19 := (by decide); rw [zc98] at nc98; have zc103 : (20 : Int32).toInt = 20 := (by decide); rw [zc103] at nc103; have zc108 : (21 : Int32).toInt = 21 := (by decide); rw [zc108] at nc108; have zc113 : (22 : Int32).toInt = 22 := (by decide); rw [zc113] at nc113; have zc118 : (23 : Int32).toInt = 23 := (by decide); rw [zc118] at nc118; omega) rfl ?_
                                                    obtain ⟨y123, ey123⟩ : ∃ y : Int32, y = q1.1 + (5 : Int32) := ⟨_, rfl⟩
                                                    replace h := h y123 ey123
                                                    refine x_iinc (v := y123) (lv' := [(0, .ref b), (1, .ref (aX 0)), (2, .ref (aS 0)), (3, .int y123)]) C 565 837 rfl 3 rfl (by rw [ey123]; rfl) (by decide) [1, 2, 3, 0] rfl ?_
                                                    refine x_goto C 566 840 18 rfl rfl ?_
                                                    exact x_sub [0, 1, 2, 3] rfl (hR18 (y123, q1.2.1, q1.2.2.1, q1.2.2.2.1, q1.2.2.2.2.1, q1.2.2.2.2.2.1, q1.2.2.2.2.2.2.1, q1.2.2.2.2.2.2.2.1, q1.2.2.2.2.2.2.2.2.1, q1.2.2.2.2.2.2.2.2.2.1, q1.2.2.2.2.2.2.2.2.2.2.1, q1.2.2.2.2.2.2.2.2.2.2.2.1, q1.2.2.2.2.2.2.2.2.2.2.2.2) h)
set_option maxHeartbeats 4000000 in
set_option maxRecDepth 100000 in
theorem w_L_law_16 {x : CT} {aX aT aB aD aR aK aM aJ aV aW aS : Nat → Nat} {b : Nat} {sX : St} {sT : St} {sB : St} {sD : St} {sR : St} {sK : St} {sM : St} {sJ : St} {sV : St} {sW : Int64} {sS : St} {sL : Int64} {xs : Nat → Int32} {L : Nat} {K : Int32 → Prop} (C : Cx x cL_law tb_L_law 4 RL (Cond.initialized RX9 :: wsL_law) room_1) (rt : RetLaw x b L xs K) (h : Lp (F_L_law_18 xs L K) ((0 : Int32), sX, sT, sB, sD, sR, sK, sM, sJ, sV, sW, sS, sL)) : Wx x 4 62 650583 (fl [wdX (xk x) aX aT aB aD aR aK aM aV aW sX, wdT (xk x) aT sT, wdB (xk x) aB sB, wdB (xk x) aD sD, wdR (xk x) aR sR, wdK (xk x) aK sK, wdM (xk x) aM aJ sM, wdK (xk x) aJ sJ, wdV (xk x) aV sV, wdW (xk x) aW sW, wdS (xk x) aS sS sL]) [(0, .ref b), (1, .ref (aX 0)), (2, .ref (aS 0))] 16 [] := by
  refine x_iconst (v := (0 : Int32)) C 8 16 rfl (by decide) ?_
  refine x_istore_n (lv' := [(0, .ref b), (1, .ref (aX 0)), (2, .ref (aS 0)), (3, .int (0 : Int32))]) C 9 17 rfl rfl (by decide) [1, 2, 3, 0] rfl ?_
  refine x_sub (lv' := [(0, .ref b), (1, .ref (aX 0)), (2, .ref (aS 0)), (3, .int (0 : Int32))]) [0, 1, 2, 3] rfl (w_L_law_18 C rt h)
