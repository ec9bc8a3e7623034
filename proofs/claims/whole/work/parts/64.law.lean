/-! the law: its table, its blocks -/
set_option maxRecDepth 100000 in
def T_Law_law : List (Nat × Instr × Nat) := [(0, .new 7, 3), (3, .dup, 1), (4, .invokespecial 9, 3), (7, .astore_n 1, 1), (8, .new 10, 3), (11, .dup, 1), (12, .invokespecial 12, 3), (15, .astore_n 2, 1), (16, .iconst 0, 1), (17, .istore_n 3, 1), (18, .iload_n 3, 1), (19, .aload_n 0, 1), (20, .arraylength, 1), (21, .iconst 5, 1), (22, .isub, 1), (23, .if_icmp .gt 806, 3), (26, .aload_n 0, 1), (27, .iload_n 3, 1), (28, .iaload, 1), (29, .bipush 31, 2), (31, .iand, 1), (32, .tableswitch 791 0 20 #[100, 159, 202, 235, 268, 301, 324, 357, 390, 403, 426, 449, 482, 535, 558, 591, 604, 627, 686, 745, 768], 100), (132, .aload_n 1, 1), (133, .aload_n 0, 1), (134, .iload_n 3, 1), (135, .iconst 1, 1), (136, .iadd, 1), (137, .iaload, 1), (138, .aload_n 0, 1), (139, .iload_n 3, 1), (140, .iconst 2, 1), (141, .iadd, 1), (142, .iaload, 1), (143, .aload_n 0, 1), (144, .iload_n 3, 1), (145, .iconst 3, 1), (146, .iadd, 1), (147, .iaload, 1), (148, .ifCond .eq 7, 3), (151, .iconst 1, 1), (152, .goto 4, 3), (155, .iconst 0, 1), (156, .invokevirtual 13, 3), (159, .aload_n 2, 1), (160, .aload_n 0, 1), (161, .iload_n 3, 1), (162, .iconst 1, 1), (163, .iadd, 1), (164, .iaload, 1), (165, .aload_n 0, 1), (166, .iload_n 3, 1), (167, .iconst 2, 1), (168, .iadd, 1), (169, .iaload, 1), (170, .aload_n 0, 1), (171, .iload_n 3, 1), (172, .iconst 3, 1), (173, .iadd, 1), (174, .iaload, 1), (175, .ifCond .eq 7, 3), (178, .iconst 1, 1), (179, .goto 4, 3), (182, .iconst 0, 1), (183, .invokevirtual 17, 3), (186, .if_icmp .eq 637, 3), (189, .iconst 0, 1), (190, .ireturn, 1), (191, .aload_n 1, 1), (192, .aload_n 0, 1), (193, .iload_n 3, 1), (194, .iconst 1, 1), (195, .iadd, 1), (196, .iaload, 1), (197, .aload_n 0, 1), (198, .iload_n 3, 1), (199, .iconst 2, 1), (200, .iadd, 1), (201, .iaload, 1), (202, .aload_n 0, 1), (203, .iload_n 3, 1), (204, .iconst 3, 1), (205, .iadd, 1), (206, .iaload, 1), (207, .invokevirtual 18, 3), (210, .aload_n 2, 1), (211, .aload_n 0, 1), (212, .iload_n 3, 1), (213, .iconst 1, 1), (214, .iadd, 1), (215, .iaload, 1), (216, .aload_n 0, 1), (217, .iload_n 3, 1), (218, .iconst 2, 1), (219, .iadd, 1), (220, .iaload, 1), (221, .aload_n 0, 1), (222, .iload_n 3, 1), (223, .iconst 3, 1), (224, .iadd, 1), (225, .iaload, 1), (226, .invokevirtual 22, 3), (229, .if_icmp .eq 594, 3), (232, .iconst 0, 1), (233, .ireturn, 1), (234, .aload_n 1, 1), (235, .aload_n 0, 1), (236, .iload_n 3, 1), (237, .iconst 1, 1), (238, .iadd, 1), (239, .iaload, 1), (240, .aload_n 0, 1), (241, .iload_n 3, 1), (242, .iconst 2, 1), (243, .iadd, 1), (244, .iaload, 1), (245, .invokevirtual 23, 3), (248, .aload_n 2, 1), (249, .aload_n 0, 1), (250, .iload_n 3, 1), (251, .iconst 1, 1), (252, .iadd, 1), (253, .iaload, 1), (254, .aload_n 0, 1), (255, .iload_n 3, 1), (256, .iconst 2, 1), (257, .iadd, 1), (258, .iaload, 1), (259, .invokevirtual 27, 3), (262, .if_icmp .eq 561, 3), (265, .iconst 0, 1), (266, .ireturn, 1), (267, .aload_n 1, 1), (268, .aload_n 0, 1), (269, .iload_n 3, 1), (270, .iconst 1, 1), (271, .iadd, 1), (272, .iaload, 1), (273, .aload_n 0, 1), (274, .iload_n 3, 1), (275, .iconst 2, 1), (276, .iadd, 1), (277, .iaload, 1), (278, .invokevirtual 28, 3), (281, .aload_n 2, 1), (282, .aload_n 0, 1), (283, .iload_n 3, 1), (284, .iconst 1, 1), (285, .iadd, 1), (286, .iaload, 1), (287, .aload_n 0, 1), (288, .iload_n 3, 1), (289, .iconst 2, 1), (290, .iadd, 1), (291, .iaload, 1), (292, .invokevirtual 31, 3), (295, .if_icmp .eq 528, 3), (298, .iconst 0, 1), (299, .ireturn, 1), (300, .aload_n 1, 1), (301, .aload_n 0, 1), (302, .iload_n 3, 1), (303, .iconst 1, 1), (304, .iadd, 1), (305, .iaload, 1), (306, .aload_n 0, 1), (307, .iload_n 3, 1), (308, .iconst 2, 1), (309, .iadd, 1), (310, .iaload, 1), (311, .invokevirtual 32, 3), (314, .aload_n 2, 1), (315, .aload_n 0, 1), (316, .iload_n 3, 1), (317, .iconst 1, 1), (318, .iadd, 1), (319, .iaload, 1), (320, .aload_n 0, 1), (321, .iload_n 3, 1), (322, .iconst 2, 1), (323, .iadd, 1), (324, .iaload, 1), (325, .invokevirtual 35, 3), (328, .if_icmp .eq 495, 3), (331, .iconst 0, 1), (332, .ireturn, 1), (333, .aload_n 1, 1), (334, .aload_n 0, 1), (335, .iload_n 3, 1), (336, .iconst 1, 1), (337, .iadd, 1), (338, .iaload, 1), (339, .invokevirtual 36, 3), (342, .aload_n 2, 1), (343, .aload_n 0, 1), (344, .iload_n 3, 1), (345, .iconst 1, 1), (346, .iadd, 1), (347, .iaload, 1), (348, .invokevirtual 40, 3), (351, .if_icmp .eq 472, 3), (354, .iconst 0, 1), (355, .ireturn, 1), (356, .aload_n 1, 1), (357, .aload_n 0, 1), (358, .iload_n 3, 1), (359, .iconst 1, 1), (360, .iadd, 1), (361, .iaload, 1), (362, .aload_n 0, 1), (363, .iload_n 3, 1), (364, .iconst 2, 1), (365, .iadd, 1), (366, .iaload, 1), (367, .invokevirtual 41, 3), (370, .aload_n 2, 1), (371, .aload_n 0, 1), (372, .iload_n 3, 1), (373, .iconst 1, 1), (374, .iadd, 1), (375, .iaload, 1), (376, .aload_n 0, 1), (377, .iload_n 3, 1), (378, .iconst 2, 1), (379, .iadd, 1), (380, .iaload, 1), (381, .invokevirtual 44, 3), (384, .if_icmp .eq 439, 3), (387, .iconst 0, 1), (388, .ireturn, 1), (389, .aload_n 1, 1), (390, .aload_n 0, 1), (391, .iload_n 3, 1), (392, .iconst 1, 1), (393, .iadd, 1), (394, .iaload, 1), (395, .aload_n 0, 1), (396, .iload_n 3, 1), (397, .iconst 2, 1), (398, .iadd, 1), (399, .iaload, 1), (400, .invokevirtual 45, 3), (403, .aload_n 2, 1), (404, .aload_n 0, 1), (405, .iload_n 3, 1), (406, .iconst 1, 1), (407, .iadd, 1), (408, .iaload, 1), (409, .aload_n 0, 1), (410, .iload_n 3, 1), (411, .iconst 2, 1), (412, .iadd, 1), (413, .iaload, 1), (414, .invokevirtual 48, 3), (417, .if_icmp .eq 406, 3), (420, .iconst 0, 1), (421, .ireturn, 1), (422, .aload_n 1, 1), (423, .invokevirtual 49, 3), (426, .aload_n 2, 1), (427, .invokevirtual 53, 3), (430, .if_icmp .eq 393, 3), (433, .iconst 0, 1), (434, .ireturn, 1), (435, .aload_n 1, 1), (436, .aload_n 0, 1), (437, .iload_n 3, 1), (438, .iconst 1, 1), (439, .iadd, 1), (440, .iaload, 1), (441, .invokevirtual 54, 3), (444, .aload_n 2, 1), (445, .aload_n 0, 1), (446, .iload_n 3, 1), (447, .iconst 1, 1), (448, .iadd, 1), (449, .iaload, 1), (450, .invokevirtual 57, 3), (453, .if_icmp .eq 370, 3), (456, .iconst 0, 1), (457, .ireturn, 1), (458, .aload_n 1, 1), (459, .aload_n 0, 1), (460, .iload_n 3, 1), (461, .iconst 1, 1), (462, .iadd, 1), (463, .iaload, 1), (464, .invokevirtual 58, 3), (467, .aload_n 2, 1), (468, .aload_n 0, 1), (469, .iload_n 3, 1), (470, .iconst 1, 1), (471, .iadd, 1), (472, .iaload, 1), (473, .invokevirtual 61, 3), (476, .if_icmp .eq 347, 3), (479, .iconst 0, 1), (480, .ireturn, 1), (481, .aload_n 1, 1), (482, .aload_n 0, 1), (483, .iload_n 3, 1), (484, .iconst 1, 1), (485, .iadd, 1), (486, .iaload, 1), (487, .aload_n 0, 1), (488, .iload_n 3, 1), (489, .iconst 2, 1), (490, .iadd, 1), (491, .iaload, 1), (492, .invokevirtual 62, 3), (495, .aload_n 2, 1), (496, .aload_n 0, 1), (497, .iload_n 3, 1), (498, .iconst 1, 1), (499, .iadd, 1), (500, .iaload, 1), (501, .aload_n 0, 1), (502, .iload_n 3, 1), (503, .iconst 2, 1), (504, .iadd, 1), (505, .iaload, 1), (506, .invokevirtual 66, 3), (509, .if_icmp .eq 314, 3), (512, .iconst 0, 1), (513, .ireturn, 1), (514, .aload_n 1, 1), (515, .aload_n 0, 1), (516, .iload_n 3, 1), (517, .iconst 1, 1), (518, .iadd, 1), (519, .iaload, 1), (520, .aload_n 0, 1), (521, .iload_n 3, 1), (522, .iconst 2, 1), (523, .iadd, 1), (524, .iaload, 1), (525, .aload_n 0, 1), (526, .iload_n 3, 1), (527, .iconst 3, 1), (528, .iadd, 1), (529, .iaload, 1), (530, .aload_n 0, 1), (531, .iload_n 3, 1), (532, .iconst 4, 1), (533, .iadd, 1), (534, .iaload, 1), (535, .invokevirtual 67, 3), (538, .aload_n 2, 1), (539, .aload_n 0, 1), (540, .iload_n 3, 1), (541, .iconst 1, 1), (542, .iadd, 1), (543, .iaload, 1), (544, .aload_n 0, 1), (545, .iload_n 3, 1), (546, .iconst 2, 1), (547, .iadd, 1), (548, .iaload, 1), (549, .aload_n 0, 1), (550, .iload_n 3, 1), (551, .iconst 3, 1), (552, .iadd, 1), (553, .iaload, 1), (554, .aload_n 0, 1), (555, .iload_n 3, 1), (556, .iconst 4, 1), (557, .iadd, 1), (558, .iaload, 1), (559, .invokevirtual 71, 3), (562, .if_icmp .eq 261, 3), (565, .iconst 0, 1), (566, .ireturn, 1), (567, .aload_n 1, 1), (568, .aload_n 0, 1), (569, .iload_n 3, 1), (570, .iconst 1, 1), (571, .iadd, 1), (572, .iaload, 1), (573, .invokevirtual 72, 3), (576, .aload_n 2, 1), (577, .aload_n 0, 1), (578, .iload_n 3, 1), (579, .iconst 1, 1), (580, .iadd, 1), (581, .iaload, 1), (582, .invokevirtual 76, 3), (585, .if_icmp .eq 238, 3), (588, .iconst 0, 1), (589, .ireturn, 1), (590, .aload_n 1, 1), (591, .aload_n 0, 1), (592, .iload_n 3, 1), (593, .iconst 1, 1), (594, .iadd, 1), (595, .iaload, 1), (596, .aload_n 0, 1), (597, .iload_n 3, 1), (598, .iconst 2, 1), (599, .iadd, 1), (600, .iaload, 1), (601, .invokevirtual 77, 3), (604, .aload_n 2, 1), (605, .aload_n 0, 1), (606, .iload_n 3, 1), (607, .iconst 1, 1), (608, .iadd, 1), (609, .iaload, 1), (610, .aload_n 0, 1), (611, .iload_n 3, 1), (612, .iconst 2, 1), (613, .iadd, 1), (614, .iaload, 1), (615, .invokevirtual 80, 3), (618, .if_icmp .eq 205, 3), (621, .iconst 0, 1), (622, .ireturn, 1), (623, .aload_n 1, 1), (624, .invokevirtual 81, 3), (627, .aload_n 2, 1), (628, .invokevirtual 84, 3), (631, .if_icmp .eq 192, 3), (634, .iconst 0, 1), (635, .ireturn, 1), (636, .aload_n 1, 1), (637, .aload_n 0, 1), (638, .iload_n 3, 1), (639, .iconst 1, 1), (640, .iadd, 1), (641, .iaload, 1), (642, .invokevirtual 85, 3), (645, .aload_n 2, 1), (646, .aload_n 0, 1), (647, .iload_n 3, 1), (648, .iconst 1, 1), (649, .iadd, 1), (650, .iaload, 1), (651, .invokevirtual 88, 3), (654, .if_icmp .eq 169, 3), (657, .iconst 0, 1), (658, .ireturn, 1), (659, .aload_n 1, 1), (660, .aload_n 0, 1), (661, .iload_n 3, 1), (662, .iconst 1, 1), (663, .iadd, 1), (664, .iaload, 1), (665, .aload_n 0, 1), (666, .iload_n 3, 1), (667, .iconst 2, 1), (668, .iadd, 1), (669, .iaload, 1), (670, .aload_n 0, 1), (671, .iload_n 3, 1), (672, .iconst 3, 1), (673, .iadd, 1), (674, .iaload, 1), (675, .ifCond .eq 7, 3), (678, .iconst 1, 1), (679, .goto 4, 3), (682, .iconst 0, 1), (683, .invokevirtual 89, 3), (686, .aload_n 2, 1), (687, .aload_n 0, 1), (688, .iload_n 3, 1), (689, .iconst 1, 1), (690, .iadd, 1), (691, .iaload, 1), (692, .aload_n 0, 1), (693, .iload_n 3, 1), (694, .iconst 2, 1), (695, .iadd, 1), (696, .iaload, 1), (697, .aload_n 0, 1), (698, .iload_n 3, 1), (699, .iconst 3, 1), (700, .iadd, 1), (701, .iaload, 1), (702, .ifCond .eq 7, 3), (705, .iconst 1, 1), (706, .goto 4, 3), (709, .iconst 0, 1), (710, .invokevirtual 92, 3), (713, .if_icmp .eq 110, 3), (716, .iconst 0, 1), (717, .ireturn, 1), (718, .aload_n 1, 1), (719, .aload_n 0, 1), (720, .iload_n 3, 1), (721, .iconst 1, 1), (722, .iadd, 1), (723, .iaload, 1), (724, .aload_n 0, 1), (725, .iload_n 3, 1), (726, .iconst 2, 1), (727, .iadd, 1), (728, .iaload, 1), (729, .aload_n 0, 1), (730, .iload_n 3, 1), (731, .iconst 3, 1), (732, .iadd, 1), (733, .iaload, 1), (734, .ifCond .eq 7, 3), (737, .iconst 1, 1), (738, .goto 4, 3), (741, .iconst 0, 1), (742, .invokevirtual 93, 3), (745, .aload_n 2, 1), (746, .aload_n 0, 1), (747, .iload_n 3, 1), (748, .iconst 1, 1), (749, .iadd, 1), (750, .iaload, 1), (751, .aload_n 0, 1), (752, .iload_n 3, 1), (753, .iconst 2, 1), (754, .iadd, 1), (755, .iaload, 1), (756, .aload_n 0, 1), (757, .iload_n 3, 1), (758, .iconst 3, 1), (759, .iadd, 1), (760, .iaload, 1), (761, .ifCond .eq 7, 3), (764, .iconst 1, 1), (765, .goto 4, 3), (768, .iconst 0, 1), (769, .invokevirtual 96, 3), (772, .if_icmp .eq 51, 3), (775, .iconst 0, 1), (776, .ireturn, 1), (777, .aload_n 1, 1), (778, .aload_n 0, 1), (779, .iload_n 3, 1), (780, .iconst 1, 1), (781, .iadd, 1), (782, .iaload, 1), (783, .invokevirtual 97, 3), (786, .aload_n 2, 1), (787, .aload_n 0, 1), (788, .iload_n 3, 1), (789, .iconst 1, 1), (790, .iadd, 1), (791, .iaload, 1), (792, .invokevirtual 100, 3), (795, .if_icmp .eq 28, 3), (798, .iconst 0, 1), (799, .ireturn, 1), (800, .aload_n 1, 1), (801, .aload_n 0, 1), (802, .iload_n 3, 1), (803, .iconst 1, 1), (804, .iadd, 1), (805, .iaload, 1), (806, .invokevirtual 101, 3), (809, .aload_n 2, 1), (810, .aload_n 0, 1), (811, .iload_n 3, 1), (812, .iconst 1, 1), (813, .iadd, 1), (814, .iaload, 1), (815, .invokevirtual 104, 3), (818, .if_icmp .eq 5, 3), (821, .iconst 0, 1), (822, .ireturn, 1), (823, .iinc 3 5, 3), (826, .goto (-808), 3), (829, .iconst 1, 1), (830, .ireturn, 1)]
def M_Law_law : MI := (12, ⟨"TouchMapLaw", "law", "([I)Z"⟩, code, 4, some .boolean, T_Law_law)
set_option maxRecDepth 100000 in
theorem dk_Law_law : OkD M_Law_law := by
  show ∀ e ∈ T_Law_law, decode code e.1 = .ok e.2
  decide +kernel
theorem WS.swOut {d : Nat} {M : MI} {pc tgt len : Nat} {L S : List AV} {σ : Mem} {Post : Option AV → Mem → Prop} {x : Int32} {dflt lo hi : Int} {offs : Array Int} (hf : fet M.tab pc = some (.tableswitch dflt lo hi offs, len)) (h : x.toInt < lo ∨ hi < x.toInt) (ht : (pc : Int) + dflt = (tgt : Int)) (k : WS d M tgt L S σ Post) : WS d M pc L (vI x :: S) σ Post := by
  intro G A p l e R s m args below meth c H locs cells slots ls Q hCX hP hR hS hL hoL hoS hQ
  have go := k G A p l e R s m args below meth c H locs cells slots ls Q hCX hP hR hS hL hoL (fun v hv => hoS v (List.mem_cons_of_mem _ hv)) hQ
  exact lv_tableOut hCX.2.1 hCX.2.2.1 (hCX.1.dec hf) h ht go
theorem WS.swIn {d : Nat} {M : MI} {pc tgt len : Nat} {L S : List AV} {σ : Mem} {Post : Option AV → Mem → Prop} {x : Int32} {dflt lo hi off : Int} {offs : Array Int} (hf : fet M.tab pc = some (.tableswitch dflt lo hi offs, len)) (h1 : ¬ x.toInt < lo) (h2 : ¬ hi < x.toInt) (ho : offs[(x.toInt - lo).toNat]? = some off) (ht : (pc : Int) + off = (tgt : Int)) (k : WS d M tgt L S σ Post) : WS d M pc L (vI x :: S) σ Post := by
  intro G A p l e R s m args below meth c H locs cells slots ls Q hCX hP hR hS hL hoL hoS hQ
  have go := k G A p l e R s m args below meth c H locs cells slots ls Q hCX hP hR hS hL hoL (fun v hv => hoS v (List.mem_cons_of_mem _ hv)) hQ
  exact lv_tableIn hCX.2.1 hCX.2.2.1 (hCX.1.dec hf) h1 h2 ho ht go
set_option maxRecDepth 4000 in
set_option maxHeartbeats 400000 in
theorem b_Law_law_18 {d : Nat} {σ : Mem} {Post : Option AV → Mem → Prop} {x3 : Int32} (h : ((((gI σ 87 0 0) - (5 : Int32)) < x3 → Post (some (vI (1 : Int32))) σ) ∧ (¬ (((gI σ 87 0 0) - (5 : Int32)) < x3) → vp_in x3 (gI σ 87 0 0).toNatClampNeg ∧ WS d M_Law_law 32 [vR 86 0, vR 0 0, vR 51 0, vI x3] [vI ((gI σ 86 0 x3.toNatClampNeg) &&& (31 : Int32))] σ Post))) : WS d M_Law_law 18 [vR 86 0, vR 0 0, vR 51 0, vI x3] [] σ Post := by
  refine WS.run (C := []) (pc' := 23) (L' := [vR 86 0, vR 0 0, vR 51 0, vI x3]) (S' := [vI ((gI σ 87 0 0) - (5 : Int32)), vI x3]) (σ' := σ) 5 rfl trivial ?_
  refine WS.br (P := ((gI σ 87 0 0) - (5 : Int32)) < x3) (a := 829) (b := 26) (S' := []) rfl (fun c1 => ?_) (fun c1 => ?_)
  · refine WS.run (C := []) (pc' := 830) (L' := [vR 86 0, vR 0 0, vR 51 0, vI x3]) (S' := [vI (1 : Int32)]) (σ' := σ) 1 rfl trivial ?_
    exact WS.ret rfl rfl (by decide) rfl (h.1 c1)
  · refine WS.run (C := [vp_in x3 (gI σ 87 0 0).toNatClampNeg]) (pc' := 32) (L' := [vR 86 0, vR 0 0, vR 51 0, vI x3]) (S' := [vI ((gI σ 86 0 x3.toNatClampNeg) &&& (31 : Int32))]) (σ' := σ) 5 rfl ⟨(h.2 c1).1, trivial⟩ ?_
    exact (h.2 c1).2
set_option maxRecDepth 4000 in
set_option maxHeartbeats 400000 in
theorem b_Law_law_132 {d : Nat} {σ : Mem} {Post : Option AV → Mem → Prop} {x3 : Int32} (h : vp_in (x3 + (1 : Int32)) (gI σ 87 0 0).toNatClampNeg ∧ vp_in (x3 + (2 : Int32)) (gI σ 87 0 0).toNatClampNeg ∧ vp_in (x3 + (3 : Int32)) (gI σ 87 0 0).toNatClampNeg ∧ (((gI σ 86 0 (x3 + (3 : Int32)).toNatClampNeg) = 0 → MM d M_TM_way [vR 0 0, vI (gI σ 86 0 (x3 + (1 : Int32)).toNatClampNeg), vI (gI σ 86 0 (x3 + (2 : Int32)).toNatClampNeg), vI (0 : Int32)] σ (fun r τ => WS (d + 1) M_Law_law 159 [vR 86 0, vR 0 0, vR 51 0, vI x3] (r.toList ++ []) τ Post)) ∧ (¬ ((gI σ 86 0 (x3 + (3 : Int32)).toNatClampNeg) = 0) → MM d M_TM_way [vR 0 0, vI (gI σ 86 0 (x3 + (1 : Int32)).toNatClampNeg), vI (gI σ 86 0 (x3 + (2 : Int32)).toNatClampNeg), vI (1 : Int32)] σ (fun r τ => WS (d + 1) M_Law_law 159 [vR 86 0, vR 0 0, vR 51 0, vI x3] (r.toList ++ []) τ Post)))) : WS (d + 1) M_Law_law 132 [vR 86 0, vR 0 0, vR 51 0, vI x3] [] σ Post := by
  refine WS.run (C := [vp_in (x3 + (1 : Int32)) (gI σ 87 0 0).toNatClampNeg, vp_in (x3 + (2 : Int32)) (gI σ 87 0 0).toNatClampNeg, vp_in (x3 + (3 : Int32)) (gI σ 87 0 0).toNatClampNeg]) (pc' := 148) (L' := [vR 86 0, vR 0 0, vR 51 0, vI x3]) (S' := [vI (gI σ 86 0 (x3 + (3 : Int32)).toNatClampNeg), vI (gI σ 86 0 (x3 + (2 : Int32)).toNatClampNeg), vI (gI σ 86 0 (x3 + (1 : Int32)).toNatClampNeg), vR 0 0]) (σ' := σ) 16 rfl ⟨h.1, h.2.1, h.2.2.1, trivial⟩ ?_
  refine WS.br (P := (gI σ 86 0 (x3 + (3 : Int32)).toNatClampNeg) = 0) (a := 155) (b := 151) (S' := [vI (gI σ 86 0 (x3 + (2 : Int32)).toNatClampNeg), vI (gI σ 86 0 (x3 + (1 : Int32)).toNatClampNeg), vR 0 0]) rfl (fun c2 => ?_) (fun c2 => ?_)
  · refine WS.run (C := []) (pc' := 156) (L' := [vR 86 0, vR 0 0, vR 51 0, vI x3]) (S' := [vI (0 : Int32), vI (gI σ 86 0 (x3 + (2 : Int32)).toNatClampNeg), vI (gI σ 86 0 (x3 + (1 : Int32)).toNatClampNeg), vR 0 0]) (σ' := σ) 1 rfl trivial ?_
    refine WS.callV M_TM_way (k := 0) (i := 0) (as := [vI (gI σ 86 0 (x3 + (1 : Int32)).toNatClampNeg), vI (gI σ 86 0 (x3 + (2 : Int32)).toNatClampNeg), vI (0 : Int32)]) (rest := []) rfl lk_12_13 rfl rfl rfl (Nat.le_of_ble_eq_true rfl) ?_
    exact (h.2.2.2.1 c2)
  · refine WS.run (C := []) (pc' := 156) (L' := [vR 86 0, vR 0 0, vR 51 0, vI x3]) (S' := [vI (1 : Int32), vI (gI σ 86 0 (x3 + (2 : Int32)).toNatClampNeg), vI (gI σ 86 0 (x3 + (1 : Int32)).toNatClampNeg), vR 0 0]) (σ' := σ) 2 rfl trivial ?_
    refine WS.callV M_TM_way (k := 0) (i := 0) (as := [vI (gI σ 86 0 (x3 + (1 : Int32)).toNatClampNeg), vI (gI σ 86 0 (x3 + (2 : Int32)).toNatClampNeg), vI (1 : Int32)]) (rest := []) rfl lk_12_13 rfl rfl rfl (Nat.le_of_ble_eq_true rfl) ?_
    exact (h.2.2.2.2 c2)
set_option maxRecDepth 4000 in
set_option maxHeartbeats 400000 in
theorem b_Law_law_159 {d : Nat} {σ : Mem} {Post : Option AV → Mem → Prop} {x3 sx0 : Int32} (h : vp_in (x3 + (1 : Int32)) (gI σ 87 0 0).toNatClampNeg ∧ vp_in (x3 + (2 : Int32)) (gI σ 87 0 0).toNatClampNeg ∧ vp_in (x3 + (3 : Int32)) (gI σ 87 0 0).toNatClampNeg ∧ (((gI σ 86 0 (x3 + (3 : Int32)).toNatClampNeg) = 0 → MM d M_MD_way [vR 51 0, vI (gI σ 86 0 (x3 + (1 : Int32)).toNatClampNeg), vI (gI σ 86 0 (x3 + (2 : Int32)).toNatClampNeg), vI (0 : Int32)] σ (fun r τ => WS (d + 1) M_Law_law 186 [vR 86 0, vR 0 0, vR 51 0, vI x3] (r.toList ++ [vI sx0]) τ Post)) ∧ (¬ ((gI σ 86 0 (x3 + (3 : Int32)).toNatClampNeg) = 0) → MM d M_MD_way [vR 51 0, vI (gI σ 86 0 (x3 + (1 : Int32)).toNatClampNeg), vI (gI σ 86 0 (x3 + (2 : Int32)).toNatClampNeg), vI (1 : Int32)] σ (fun r τ => WS (d + 1) M_Law_law 186 [vR 86 0, vR 0 0, vR 51 0, vI x3] (r.toList ++ [vI sx0]) τ Post)))) : WS (d + 1) M_Law_law 159 [vR 86 0, vR 0 0, vR 51 0, vI x3] [vI sx0] σ Post := by
  refine WS.run (C := [vp_in (x3 + (1 : Int32)) (gI σ 87 0 0).toNatClampNeg, vp_in (x3 + (2 : Int32)) (gI σ 87 0 0).toNatClampNeg, vp_in (x3 + (3 : Int32)) (gI σ 87 0 0).toNatClampNeg]) (pc' := 175) (L' := [vR 86 0, vR 0 0, vR 51 0, vI x3]) (S' := [vI (gI σ 86 0 (x3 + (3 : Int32)).toNatClampNeg), vI (gI σ 86 0 (x3 + (2 : Int32)).toNatClampNeg), vI (gI σ 86 0 (x3 + (1 : Int32)).toNatClampNeg), vR 51 0, vI sx0]) (σ' := σ) 16 rfl ⟨h.1, h.2.1, h.2.2.1, trivial⟩ ?_
  refine WS.br (P := (gI σ 86 0 (x3 + (3 : Int32)).toNatClampNeg) = 0) (a := 182) (b := 178) (S' := [vI (gI σ 86 0 (x3 + (2 : Int32)).toNatClampNeg), vI (gI σ 86 0 (x3 + (1 : Int32)).toNatClampNeg), vR 51 0, vI sx0]) rfl (fun c3 => ?_) (fun c3 => ?_)
  · refine WS.run (C := []) (pc' := 183) (L' := [vR 86 0, vR 0 0, vR 51 0, vI x3]) (S' := [vI (0 : Int32), vI (gI σ 86 0 (x3 + (2 : Int32)).toNatClampNeg), vI (gI σ 86 0 (x3 + (1 : Int32)).toNatClampNeg), vR 51 0, vI sx0]) (σ' := σ) 1 rfl trivial ?_
    refine WS.callV M_MD_way (k := 51) (i := 0) (as := [vI (gI σ 86 0 (x3 + (1 : Int32)).toNatClampNeg), vI (gI σ 86 0 (x3 + (2 : Int32)).toNatClampNeg), vI (0 : Int32)]) (rest := [vI sx0]) rfl lk_12_17 rfl rfl rfl (Nat.le_of_ble_eq_true rfl) ?_
    exact (h.2.2.2.1 c3)
  · refine WS.run (C := []) (pc' := 183) (L' := [vR 86 0, vR 0 0, vR 51 0, vI x3]) (S' := [vI (1 : Int32), vI (gI σ 86 0 (x3 + (2 : Int32)).toNatClampNeg), vI (gI σ 86 0 (x3 + (1 : Int32)).toNatClampNeg), vR 51 0, vI sx0]) (σ' := σ) 2 rfl trivial ?_
    refine WS.callV M_MD_way (k := 51) (i := 0) (as := [vI (gI σ 86 0 (x3 + (1 : Int32)).toNatClampNeg), vI (gI σ 86 0 (x3 + (2 : Int32)).toNatClampNeg), vI (1 : Int32)]) (rest := [vI sx0]) rfl lk_12_17 rfl rfl rfl (Nat.le_of_ble_eq_true rfl) ?_
    exact (h.2.2.2.2 c3)
set_option maxRecDepth 4000 in
set_option maxHeartbeats 400000 in
theorem b_Law_law_186 {d : Nat} {σ : Mem} {Post : Option AV → Mem → Prop} {x3 sx0 sx1 : Int32} (h : ((sx1 = sx0 → WS d M_Law_law 823 [vR 86 0, vR 0 0, vR 51 0, vI x3] [] σ Post) ∧ (¬ (sx1 = sx0) → Post (some (vI (0 : Int32))) σ))) : WS d M_Law_law 186 [vR 86 0, vR 0 0, vR 51 0, vI x3] [vI sx0, vI sx1] σ Post := by
  refine WS.br (P := sx1 = sx0) (a := 823) (b := 189) (S' := []) rfl (fun c4 => ?_) (fun c4 => ?_)
  · exact (h.1 c4)
  · refine WS.run (C := []) (pc' := 190) (L' := [vR 86 0, vR 0 0, vR 51 0, vI x3]) (S' := [vI (0 : Int32)]) (σ' := σ) 1 rfl trivial ?_
    exact WS.ret rfl rfl (by decide) rfl (h.2 c4)
set_option maxRecDepth 4000 in
set_option maxHeartbeats 400000 in
theorem b_Law_law_191 {d : Nat} {σ : Mem} {Post : Option AV → Mem → Prop} {x3 : Int32} (h : vp_in (x3 + (1 : Int32)) (gI σ 87 0 0).toNatClampNeg ∧ vp_in (x3 + (2 : Int32)) (gI σ 87 0 0).toNatClampNeg ∧ vp_in (x3 + (3 : Int32)) (gI σ 87 0 0).toNatClampNeg ∧ MM d M_TM_point [vR 0 0, vI (gI σ 86 0 (x3 + (1 : Int32)).toNatClampNeg), vI (gI σ 86 0 (x3 + (2 : Int32)).toNatClampNeg), vI (gI σ 86 0 (x3 + (3 : Int32)).toNatClampNeg)] σ (fun r τ => WS (d + 1) M_Law_law 210 [vR 86 0, vR 0 0, vR 51 0, vI x3] (r.toList ++ []) τ Post)) : WS (d + 1) M_Law_law 191 [vR 86 0, vR 0 0, vR 51 0, vI x3] [] σ Post := by
  refine WS.run (C := [vp_in (x3 + (1 : Int32)) (gI σ 87 0 0).toNatClampNeg, vp_in (x3 + (2 : Int32)) (gI σ 87 0 0).toNatClampNeg, vp_in (x3 + (3 : Int32)) (gI σ 87 0 0).toNatClampNeg]) (pc' := 207) (L' := [vR 86 0, vR 0 0, vR 51 0, vI x3]) (S' := [vI (gI σ 86 0 (x3 + (3 : Int32)).toNatClampNeg), vI (gI σ 86 0 (x3 + (2 : Int32)).toNatClampNeg), vI (gI σ 86 0 (x3 + (1 : Int32)).toNatClampNeg), vR 0 0]) (σ' := σ) 16 rfl ⟨h.1, h.2.1, h.2.2.1, trivial⟩ ?_
  refine WS.callV M_TM_point (k := 0) (i := 0) (as := [vI (gI σ 86 0 (x3 + (1 : Int32)).toNatClampNeg), vI (gI σ 86 0 (x3 + (2 : Int32)).toNatClampNeg), vI (gI σ 86 0 (x3 + (3 : Int32)).toNatClampNeg)]) (rest := []) rfl lk_12_18 rfl rfl rfl (Nat.le_of_ble_eq_true rfl) ?_
  exact h.2.2.2
set_option maxRecDepth 4000 in
set_option maxHeartbeats 400000 in
theorem b_Law_law_210 {d : Nat} {σ : Mem} {Post : Option AV → Mem → Prop} {x3 sx0 : Int32} (h : vp_in (x3 + (1 : Int32)) (gI σ 87 0 0).toNatClampNeg ∧ vp_in (x3 + (2 : Int32)) (gI σ 87 0 0).toNatClampNeg ∧ vp_in (x3 + (3 : Int32)) (gI σ 87 0 0).toNatClampNeg ∧ MM d M_MD_point [vR 51 0, vI (gI σ 86 0 (x3 + (1 : Int32)).toNatClampNeg), vI (gI σ 86 0 (x3 + (2 : Int32)).toNatClampNeg), vI (gI σ 86 0 (x3 + (3 : Int32)).toNatClampNeg)] σ (fun r τ => WS (d + 1) M_Law_law 229 [vR 86 0, vR 0 0, vR 51 0, vI x3] (r.toList ++ [vI sx0]) τ Post)) : WS (d + 1) M_Law_law 210 [vR 86 0, vR 0 0, vR 51 0, vI x3] [vI sx0] σ Post := by
  refine WS.run (C := [vp_in (x3 + (1 : Int32)) (gI σ 87 0 0).toNatClampNeg, vp_in (x3 + (2 : Int32)) (gI σ 87 0 0).toNatClampNeg, vp_in (x3 + (3 : Int32)) (gI σ 87 0 0).toNatClampNeg]) (pc' := 226) (L' := [vR 86 0, vR 0 0, vR 51 0, vI x3]) (S' := [vI (gI σ 86 0 (x3 + (3 : Int32)).toNatClampNeg), vI (gI σ 86 0 (x3 + (2 : Int32)).toNatClampNeg), vI (gI σ 86 0 (x3 + (1 : Int32)).toNatClampNeg), vR 51 0, vI sx0]) (σ' := σ) 16 rfl ⟨h.1, h.2.1, h.2.2.1, trivial⟩ ?_
  refine WS.callV M_MD_point (k := 51) (i := 0) (as := [vI (gI σ 86 0 (x3 + (1 : Int32)).toNatClampNeg), vI (gI σ 86 0 (x3 + (2 : Int32)).toNatClampNeg), vI (gI σ 86 0 (x3 + (3 : Int32)).toNatClampNeg)]) (rest := [vI sx0]) rfl lk_12_22 rfl rfl rfl (Nat.le_of_ble_eq_true rfl) ?_
  exact h.2.2.2
set_option maxRecDepth 4000 in
set_option maxHeartbeats 400000 in
theorem b_Law_law_229 {d : Nat} {σ : Mem} {Post : Option AV → Mem → Prop} {x3 sx0 sx1 : Int32} (h : ((sx1 = sx0 → WS d M_Law_law 823 [vR 86 0, vR 0 0, vR 51 0, vI x3] [] σ Post) ∧ (¬ (sx1 = sx0) → Post (some (vI (0 : Int32))) σ))) : WS d M_Law_law 229 [vR 86 0, vR 0 0, vR 51 0, vI x3] [vI sx0, vI sx1] σ Post := by
  refine WS.br (P := sx1 = sx0) (a := 823) (b := 232) (S' := []) rfl (fun c5 => ?_) (fun c5 => ?_)
  · exact (h.1 c5)
  · refine WS.run (C := []) (pc' := 233) (L' := [vR 86 0, vR 0 0, vR 51 0, vI x3]) (S' := [vI (0 : Int32)]) (σ' := σ) 1 rfl trivial ?_
    exact WS.ret rfl rfl (by decide) rfl (h.2 c5)
set_option maxRecDepth 4000 in
set_option maxHeartbeats 400000 in
theorem b_Law_law_234 {d : Nat} {σ : Mem} {Post : Option AV → Mem → Prop} {x3 : Int32} (h : vp_in (x3 + (1 : Int32)) (gI σ 87 0 0).toNatClampNeg ∧ vp_in (x3 + (2 : Int32)) (gI σ 87 0 0).toNatClampNeg ∧ MM d M_TM_simple [vR 0 0, vI (gI σ 86 0 (x3 + (1 : Int32)).toNatClampNeg), vI (gI σ 86 0 (x3 + (2 : Int32)).toNatClampNeg)] σ (fun r τ => WS (d + 1) M_Law_law 248 [vR 86 0, vR 0 0, vR 51 0, vI x3] (r.toList ++ []) τ Post)) : WS (d + 1) M_Law_law 234 [vR 86 0, vR 0 0, vR 51 0, vI x3] [] σ Post := by
  refine WS.run (C := [vp_in (x3 + (1 : Int32)) (gI σ 87 0 0).toNatClampNeg, vp_in (x3 + (2 : Int32)) (gI σ 87 0 0).toNatClampNeg]) (pc' := 245) (L' := [vR 86 0, vR 0 0, vR 51 0, vI x3]) (S' := [vI (gI σ 86 0 (x3 + (2 : Int32)).toNatClampNeg), vI (gI σ 86 0 (x3 + (1 : Int32)).toNatClampNeg), vR 0 0]) (σ' := σ) 11 rfl ⟨h.1, h.2.1, trivial⟩ ?_
  refine WS.callV M_TM_simple (k := 0) (i := 0) (as := [vI (gI σ 86 0 (x3 + (1 : Int32)).toNatClampNeg), vI (gI σ 86 0 (x3 + (2 : Int32)).toNatClampNeg)]) (rest := []) rfl lk_12_23 rfl rfl rfl (Nat.le_of_ble_eq_true rfl) ?_
  exact h.2.2
set_option maxRecDepth 4000 in
set_option maxHeartbeats 400000 in
theorem b_Law_law_248 {d : Nat} {σ : Mem} {Post : Option AV → Mem → Prop} {x3 sx0 : Int32} (h : vp_in (x3 + (1 : Int32)) (gI σ 87 0 0).toNatClampNeg ∧ vp_in (x3 + (2 : Int32)) (gI σ 87 0 0).toNatClampNeg ∧ MM d M_MD_simple [vR 51 0, vI (gI σ 86 0 (x3 + (1 : Int32)).toNatClampNeg), vI (gI σ 86 0 (x3 + (2 : Int32)).toNatClampNeg)] σ (fun r τ => WS (d + 1) M_Law_law 262 [vR 86 0, vR 0 0, vR 51 0, vI x3] (r.toList ++ [vI sx0]) τ Post)) : WS (d + 1) M_Law_law 248 [vR 86 0, vR 0 0, vR 51 0, vI x3] [vI sx0] σ Post := by
  refine WS.run (C := [vp_in (x3 + (1 : Int32)) (gI σ 87 0 0).toNatClampNeg, vp_in (x3 + (2 : Int32)) (gI σ 87 0 0).toNatClampNeg]) (pc' := 259) (L' := [vR 86 0, vR 0 0, vR 51 0, vI x3]) (S' := [vI (gI σ 86 0 (x3 + (2 : Int32)).toNatClampNeg), vI (gI σ 86 0 (x3 + (1 : Int32)).toNatClampNeg), vR 51 0, vI sx0]) (σ' := σ) 11 rfl ⟨h.1, h.2.1, trivial⟩ ?_
  refine WS.callV M_MD_simple (k := 51) (i := 0) (as := [vI (gI σ 86 0 (x3 + (1 : Int32)).toNatClampNeg), vI (gI σ 86 0 (x3 + (2 : Int32)).toNatClampNeg)]) (rest := [vI sx0]) rfl lk_12_27 rfl rfl rfl (Nat.le_of_ble_eq_true rfl) ?_
  exact h.2.2
set_option maxRecDepth 4000 in
set_option maxHeartbeats 400000 in
theorem b_Law_law_262 {d : Nat} {σ : Mem} {Post : Option AV → Mem → Prop} {x3 sx0 sx1 : Int32} (h : ((sx1 = sx0 → WS d M_Law_law 823 [vR 86 0, vR 0 0, vR 51 0, vI x3] [] σ Post) ∧ (¬ (sx1 = sx0) → Post (some (vI (0 : Int32))) σ))) : WS d M_Law_law 262 [vR 86 0, vR 0 0, vR 51 0, vI x3] [vI sx0, vI sx1] σ Post := by
  refine WS.br (P := sx1 = sx0) (a := 823) (b := 265) (S' := []) rfl (fun c6 => ?_) (fun c6 => ?_)
  · exact (h.1 c6)
  · refine WS.run (C := []) (pc' := 266) (L' := [vR 86 0, vR 0 0, vR 51 0, vI x3]) (S' := [vI (0 : Int32)]) (σ' := σ) 1 rfl trivial ?_
    exact WS.ret rfl rfl (by decide) rfl (h.2 c6)
set_option maxRecDepth 4000 in
set_option maxHeartbeats 400000 in
theorem b_Law_law_267 {d : Nat} {σ : Mem} {Post : Option AV → Mem → Prop} {x3 : Int32} (h : vp_in (x3 + (1 : Int32)) (gI σ 87 0 0).toNatClampNeg ∧ vp_in (x3 + (2 : Int32)) (gI σ 87 0 0).toNatClampNeg ∧ MM d M_TM_drawn [vR 0 0, vI (gI σ 86 0 (x3 + (1 : Int32)).toNatClampNeg), vI (gI σ 86 0 (x3 + (2 : Int32)).toNatClampNeg)] σ (fun r τ => WS (d + 1) M_Law_law 281 [vR 86 0, vR 0 0, vR 51 0, vI x3] (r.toList ++ []) τ Post)) : WS (d + 1) M_Law_law 267 [vR 86 0, vR 0 0, vR 51 0, vI x3] [] σ Post := by
  refine WS.run (C := [vp_in (x3 + (1 : Int32)) (gI σ 87 0 0).toNatClampNeg, vp_in (x3 + (2 : Int32)) (gI σ 87 0 0).toNatClampNeg]) (pc' := 278) (L' := [vR 86 0, vR 0 0, vR 51 0, vI x3]) (S' := [vI (gI σ 86 0 (x3 + (2 : Int32)).toNatClampNeg), vI (gI σ 86 0 (x3 + (1 : Int32)).toNatClampNeg), vR 0 0]) (σ' := σ) 11 rfl ⟨h.1, h.2.1, trivial⟩ ?_
  refine WS.callV M_TM_drawn (k := 0) (i := 0) (as := [vI (gI σ 86 0 (x3 + (1 : Int32)).toNatClampNeg), vI (gI σ 86 0 (x3 + (2 : Int32)).toNatClampNeg)]) (rest := []) rfl lk_12_28 rfl rfl rfl (Nat.le_of_ble_eq_true rfl) ?_
  exact h.2.2
set_option maxRecDepth 4000 in
set_option maxHeartbeats 400000 in
theorem b_Law_law_281 {d : Nat} {σ : Mem} {Post : Option AV → Mem → Prop} {x3 sx0 : Int32} (h : vp_in (x3 + (1 : Int32)) (gI σ 87 0 0).toNatClampNeg ∧ vp_in (x3 + (2 : Int32)) (gI σ 87 0 0).toNatClampNeg ∧ MM d M_MD_drawn [vR 51 0, vI (gI σ 86 0 (x3 + (1 : Int32)).toNatClampNeg), vI (gI σ 86 0 (x3 + (2 : Int32)).toNatClampNeg)] σ (fun r τ => WS (d + 1) M_Law_law 295 [vR 86 0, vR 0 0, vR 51 0, vI x3] (r.toList ++ [vI sx0]) τ Post)) : WS (d + 1) M_Law_law 281 [vR 86 0, vR 0 0, vR 51 0, vI x3] [vI sx0] σ Post := by
  refine WS.run (C := [vp_in (x3 + (1 : Int32)) (gI σ 87 0 0).toNatClampNeg, vp_in (x3 + (2 : Int32)) (gI σ 87 0 0).toNatClampNeg]) (pc' := 292) (L' := [vR 86 0, vR 0 0, vR 51 0, vI x3]) (S' := [vI (gI σ 86 0 (x3 + (2 : Int32)).toNatClampNeg), vI (gI σ 86 0 (x3 + (1 : Int32)).toNatClampNeg), vR 51 0, vI sx0]) (σ' := σ) 11 rfl ⟨h.1, h.2.1, trivial⟩ ?_
  refine WS.callV M_MD_drawn (k := 51) (i := 0) (as := [vI (gI σ 86 0 (x3 + (1 : Int32)).toNatClampNeg), vI (gI σ 86 0 (x3 + (2 : Int32)).toNatClampNeg)]) (rest := [vI sx0]) rfl lk_12_31 rfl rfl rfl (Nat.le_of_ble_eq_true rfl) ?_
  exact h.2.2
set_option maxRecDepth 4000 in
set_option maxHeartbeats 400000 in
theorem b_Law_law_295 {d : Nat} {σ : Mem} {Post : Option AV → Mem → Prop} {x3 sx0 sx1 : Int32} (h : ((sx1 = sx0 → WS d M_Law_law 823 [vR 86 0, vR 0 0, vR 51 0, vI x3] [] σ Post) ∧ (¬ (sx1 = sx0) → Post (some (vI (0 : Int32))) σ))) : WS d M_Law_law 295 [vR 86 0, vR 0 0, vR 51 0, vI x3] [vI sx0, vI sx1] σ Post := by
  refine WS.br (P := sx1 = sx0) (a := 823) (b := 298) (S' := []) rfl (fun c7 => ?_) (fun c7 => ?_)
  · exact (h.1 c7)
  · refine WS.run (C := []) (pc' := 299) (L' := [vR 86 0, vR 0 0, vR 51 0, vI x3]) (S' := [vI (0 : Int32)]) (σ' := σ) 1 rfl trivial ?_
    exact WS.ret rfl rfl (by decide) rfl (h.2 c7)
set_option maxRecDepth 4000 in
set_option maxHeartbeats 400000 in
theorem b_Law_law_300 {d : Nat} {σ : Mem} {Post : Option AV → Mem → Prop} {x3 : Int32} (h : vp_in (x3 + (1 : Int32)) (gI σ 87 0 0).toNatClampNeg ∧ vp_in (x3 + (2 : Int32)) (gI σ 87 0 0).toNatClampNeg ∧ MM d M_TM_turn [vR 0 0, vI (gI σ 86 0 (x3 + (1 : Int32)).toNatClampNeg), vI (gI σ 86 0 (x3 + (2 : Int32)).toNatClampNeg)] σ (fun r τ => WS (d + 1) M_Law_law 314 [vR 86 0, vR 0 0, vR 51 0, vI x3] (r.toList ++ []) τ Post)) : WS (d + 1) M_Law_law 300 [vR 86 0, vR 0 0, vR 51 0, vI x3] [] σ Post := by
  refine WS.run (C := [vp_in (x3 + (1 : Int32)) (gI σ 87 0 0).toNatClampNeg, vp_in (x3 + (2 : Int32)) (gI σ 87 0 0).toNatClampNeg]) (pc' := 311) (L' := [vR 86 0, vR 0 0, vR 51 0, vI x3]) (S' := [vI (gI σ 86 0 (x3 + (2 : Int32)).toNatClampNeg), vI (gI σ 86 0 (x3 + (1 : Int32)).toNatClampNeg), vR 0 0]) (σ' := σ) 11 rfl ⟨h.1, h.2.1, trivial⟩ ?_
  refine WS.callV M_TM_turn (k := 0) (i := 0) (as := [vI (gI σ 86 0 (x3 + (1 : Int32)).toNatClampNeg), vI (gI σ 86 0 (x3 + (2 : Int32)).toNatClampNeg)]) (rest := []) rfl lk_12_32 rfl rfl rfl (Nat.le_of_ble_eq_true rfl) ?_
  exact h.2.2
set_option maxRecDepth 4000 in
set_option maxHeartbeats 400000 in
theorem b_Law_law_314 {d : Nat} {σ : Mem} {Post : Option AV → Mem → Prop} {x3 sx0 : Int32} (h : vp_in (x3 + (1 : Int32)) (gI σ 87 0 0).toNatClampNeg ∧ vp_in (x3 + (2 : Int32)) (gI σ 87 0 0).toNatClampNeg ∧ MM d M_MD_turn [vR 51 0, vI (gI σ 86 0 (x3 + (1 : Int32)).toNatClampNeg), vI (gI σ 86 0 (x3 + (2 : Int32)).toNatClampNeg)] σ (fun r τ => WS (d + 1) M_Law_law 328 [vR 86 0, vR 0 0, vR 51 0, vI x3] (r.toList ++ [vI sx0]) τ Post)) : WS (d + 1) M_Law_law 314 [vR 86 0, vR 0 0, vR 51 0, vI x3] [vI sx0] σ Post := by
  refine WS.run (C := [vp_in (x3 + (1 : Int32)) (gI σ 87 0 0).toNatClampNeg, vp_in (x3 + (2 : Int32)) (gI σ 87 0 0).toNatClampNeg]) (pc' := 325) (L' := [vR 86 0, vR 0 0, vR 51 0, vI x3]) (S' := [vI (gI σ 86 0 (x3 + (2 : Int32)).toNatClampNeg), vI (gI σ 86 0 (x3 + (1 : Int32)).toNatClampNeg), vR 51 0, vI sx0]) (σ' := σ) 11 rfl ⟨h.1, h.2.1, trivial⟩ ?_
  refine WS.callV M_MD_turn (k := 51) (i := 0) (as := [vI (gI σ 86 0 (x3 + (1 : Int32)).toNatClampNeg), vI (gI σ 86 0 (x3 + (2 : Int32)).toNatClampNeg)]) (rest := [vI sx0]) rfl lk_12_35 rfl rfl rfl (Nat.le_of_ble_eq_true rfl) ?_
  exact h.2.2
set_option maxRecDepth 4000 in
set_option maxHeartbeats 400000 in
theorem b_Law_law_328 {d : Nat} {σ : Mem} {Post : Option AV → Mem → Prop} {x3 sx0 sx1 : Int32} (h : ((sx1 = sx0 → WS d M_Law_law 823 [vR 86 0, vR 0 0, vR 51 0, vI x3] [] σ Post) ∧ (¬ (sx1 = sx0) → Post (some (vI (0 : Int32))) σ))) : WS d M_Law_law 328 [vR 86 0, vR 0 0, vR 51 0, vI x3] [vI sx0, vI sx1] σ Post := by
  refine WS.br (P := sx1 = sx0) (a := 823) (b := 331) (S' := []) rfl (fun c8 => ?_) (fun c8 => ?_)
  · exact (h.1 c8)
  · refine WS.run (C := []) (pc' := 332) (L' := [vR 86 0, vR 0 0, vR 51 0, vI x3]) (S' := [vI (0 : Int32)]) (σ' := σ) 1 rfl trivial ?_
    exact WS.ret rfl rfl (by decide) rfl (h.2 c8)
set_option maxRecDepth 4000 in
set_option maxHeartbeats 400000 in
theorem b_Law_law_333 {d : Nat} {σ : Mem} {Post : Option AV → Mem → Prop} {x3 : Int32} (h : vp_in (x3 + (1 : Int32)) (gI σ 87 0 0).toNatClampNeg ∧ MM d M_TM_gap [vR 0 0, vI (gI σ 86 0 (x3 + (1 : Int32)).toNatClampNeg)] σ (fun r τ => WS (d + 1) M_Law_law 342 [vR 86 0, vR 0 0, vR 51 0, vI x3] (r.toList ++ []) τ Post)) : WS (d + 1) M_Law_law 333 [vR 86 0, vR 0 0, vR 51 0, vI x3] [] σ Post := by
  refine WS.run (C := [vp_in (x3 + (1 : Int32)) (gI σ 87 0 0).toNatClampNeg]) (pc' := 339) (L' := [vR 86 0, vR 0 0, vR 51 0, vI x3]) (S' := [vI (gI σ 86 0 (x3 + (1 : Int32)).toNatClampNeg), vR 0 0]) (σ' := σ) 6 rfl ⟨h.1, trivial⟩ ?_
  refine WS.callV M_TM_gap (k := 0) (i := 0) (as := [vI (gI σ 86 0 (x3 + (1 : Int32)).toNatClampNeg)]) (rest := []) rfl lk_12_36 rfl rfl rfl (Nat.le_of_ble_eq_true rfl) ?_
  exact h.2
set_option maxRecDepth 4000 in
set_option maxHeartbeats 400000 in
theorem b_Law_law_342 {d : Nat} {σ : Mem} {Post : Option AV → Mem → Prop} {x3 sx0 : Int32} (h : vp_in (x3 + (1 : Int32)) (gI σ 87 0 0).toNatClampNeg ∧ MM d M_MD_gap [vR 51 0, vI (gI σ 86 0 (x3 + (1 : Int32)).toNatClampNeg)] σ (fun r τ => WS (d + 1) M_Law_law 351 [vR 86 0, vR 0 0, vR 51 0, vI x3] (r.toList ++ [vI sx0]) τ Post)) : WS (d + 1) M_Law_law 342 [vR 86 0, vR 0 0, vR 51 0, vI x3] [vI sx0] σ Post := by
  refine WS.run (C := [vp_in (x3 + (1 : Int32)) (gI σ 87 0 0).toNatClampNeg]) (pc' := 348) (L' := [vR 86 0, vR 0 0, vR 51 0, vI x3]) (S' := [vI (gI σ 86 0 (x3 + (1 : Int32)).toNatClampNeg), vR 51 0, vI sx0]) (σ' := σ) 6 rfl ⟨h.1, trivial⟩ ?_
  refine WS.callV M_MD_gap (k := 51) (i := 0) (as := [vI (gI σ 86 0 (x3 + (1 : Int32)).toNatClampNeg)]) (rest := [vI sx0]) rfl lk_12_40 rfl rfl rfl (Nat.le_of_ble_eq_true rfl) ?_
  exact h.2
set_option maxRecDepth 4000 in
set_option maxHeartbeats 400000 in
theorem b_Law_law_351 {d : Nat} {σ : Mem} {Post : Option AV → Mem → Prop} {x3 sx0 sx1 : Int32} (h : ((sx1 = sx0 → WS d M_Law_law 823 [vR 86 0, vR 0 0, vR 51 0, vI x3] [] σ Post) ∧ (¬ (sx1 = sx0) → Post (some (vI (0 : Int32))) σ))) : WS d M_Law_law 351 [vR 86 0, vR 0 0, vR 51 0, vI x3] [vI sx0, vI sx1] σ Post := by
  refine WS.br (P := sx1 = sx0) (a := 823) (b := 354) (S' := []) rfl (fun c9 => ?_) (fun c9 => ?_)
  · exact (h.1 c9)
  · refine WS.run (C := []) (pc' := 355) (L' := [vR 86 0, vR 0 0, vR 51 0, vI x3]) (S' := [vI (0 : Int32)]) (σ' := σ) 1 rfl trivial ?_
    exact WS.ret rfl rfl (by decide) rfl (h.2 c9)
set_option maxRecDepth 4000 in
set_option maxHeartbeats 400000 in
theorem b_Law_law_356 {d : Nat} {σ : Mem} {Post : Option AV → Mem → Prop} {x3 : Int32} (h : vp_in (x3 + (1 : Int32)) (gI σ 87 0 0).toNatClampNeg ∧ vp_in (x3 + (2 : Int32)) (gI σ 87 0 0).toNatClampNeg ∧ MM d M_TM_near [vR 0 0, vI (gI σ 86 0 (x3 + (1 : Int32)).toNatClampNeg), vI (gI σ 86 0 (x3 + (2 : Int32)).toNatClampNeg)] σ (fun r τ => WS (d + 1) M_Law_law 370 [vR 86 0, vR 0 0, vR 51 0, vI x3] (r.toList ++ []) τ Post)) : WS (d + 1) M_Law_law 356 [vR 86 0, vR 0 0, vR 51 0, vI x3] [] σ Post := by
  refine WS.run (C := [vp_in (x3 + (1 : Int32)) (gI σ 87 0 0).toNatClampNeg, vp_in (x3 + (2 : Int32)) (gI σ 87 0 0).toNatClampNeg]) (pc' := 367) (L' := [vR 86 0, vR 0 0, vR 51 0, vI x3]) (S' := [vI (gI σ 86 0 (x3 + (2 : Int32)).toNatClampNeg), vI (gI σ 86 0 (x3 + (1 : Int32)).toNatClampNeg), vR 0 0]) (σ' := σ) 11 rfl ⟨h.1, h.2.1, trivial⟩ ?_
  refine WS.callV M_TM_near (k := 0) (i := 0) (as := [vI (gI σ 86 0 (x3 + (1 : Int32)).toNatClampNeg), vI (gI σ 86 0 (x3 + (2 : Int32)).toNatClampNeg)]) (rest := []) rfl lk_12_41 rfl rfl rfl (Nat.le_of_ble_eq_true rfl) ?_
  exact h.2.2
set_option maxRecDepth 4000 in
set_option maxHeartbeats 400000 in
theorem b_Law_law_370 {d : Nat} {σ : Mem} {Post : Option AV → Mem → Prop} {x3 sx0 : Int32} (h : vp_in (x3 + (1 : Int32)) (gI σ 87 0 0).toNatClampNeg ∧ vp_in (x3 + (2 : Int32)) (gI σ 87 0 0).toNatClampNeg ∧ MM d M_MD_near [vR 51 0, vI (gI σ 86 0 (x3 + (1 : Int32)).toNatClampNeg), vI (gI σ 86 0 (x3 + (2 : Int32)).toNatClampNeg)] σ (fun r τ => WS (d + 1) M_Law_law 384 [vR 86 0, vR 0 0, vR 51 0, vI x3] (r.toList ++ [vI sx0]) τ Post)) : WS (d + 1) M_Law_law 370 [vR 86 0, vR 0 0, vR 51 0, vI x3] [vI sx0] σ Post := by
  refine WS.run (C := [vp_in (x3 + (1 : Int32)) (gI σ 87 0 0).toNatClampNeg, vp_in (x3 + (2 : Int32)) (gI σ 87 0 0).toNatClampNeg]) (pc' := 381) (L' := [vR 86 0, vR 0 0, vR 51 0, vI x3]) (S' := [vI (gI σ 86 0 (x3 + (2 : Int32)).toNatClampNeg), vI (gI σ 86 0 (x3 + (1 : Int32)).toNatClampNeg), vR 51 0, vI sx0]) (σ' := σ) 11 rfl ⟨h.1, h.2.1, trivial⟩ ?_
  refine WS.callV M_MD_near (k := 51) (i := 0) (as := [vI (gI σ 86 0 (x3 + (1 : Int32)).toNatClampNeg), vI (gI σ 86 0 (x3 + (2 : Int32)).toNatClampNeg)]) (rest := [vI sx0]) rfl lk_12_44 rfl rfl rfl (Nat.le_of_ble_eq_true rfl) ?_
  exact h.2.2
set_option maxRecDepth 4000 in
set_option maxHeartbeats 400000 in
theorem b_Law_law_384 {d : Nat} {σ : Mem} {Post : Option AV → Mem → Prop} {x3 sx0 sx1 : Int32} (h : ((sx1 = sx0 → WS d M_Law_law 823 [vR 86 0, vR 0 0, vR 51 0, vI x3] [] σ Post) ∧ (¬ (sx1 = sx0) → Post (some (vI (0 : Int32))) σ))) : WS d M_Law_law 384 [vR 86 0, vR 0 0, vR 51 0, vI x3] [vI sx0, vI sx1] σ Post := by
  refine WS.br (P := sx1 = sx0) (a := 823) (b := 387) (S' := []) rfl (fun c10 => ?_) (fun c10 => ?_)
  · exact (h.1 c10)
  · refine WS.run (C := []) (pc' := 388) (L' := [vR 86 0, vR 0 0, vR 51 0, vI x3]) (S' := [vI (0 : Int32)]) (σ' := σ) 1 rfl trivial ?_
    exact WS.ret rfl rfl (by decide) rfl (h.2 c10)
set_option maxRecDepth 4000 in
set_option maxHeartbeats 400000 in
theorem b_Law_law_389 {d : Nat} {σ : Mem} {Post : Option AV → Mem → Prop} {x3 : Int32} (h : vp_in (x3 + (1 : Int32)) (gI σ 87 0 0).toNatClampNeg ∧ vp_in (x3 + (2 : Int32)) (gI σ 87 0 0).toNatClampNeg ∧ MM d M_TM_crossings [vR 0 0, vI (gI σ 86 0 (x3 + (1 : Int32)).toNatClampNeg), vI (gI σ 86 0 (x3 + (2 : Int32)).toNatClampNeg)] σ (fun r τ => WS (d + 1) M_Law_law 403 [vR 86 0, vR 0 0, vR 51 0, vI x3] (r.toList ++ []) τ Post)) : WS (d + 1) M_Law_law 389 [vR 86 0, vR 0 0, vR 51 0, vI x3] [] σ Post := by
  refine WS.run (C := [vp_in (x3 + (1 : Int32)) (gI σ 87 0 0).toNatClampNeg, vp_in (x3 + (2 : Int32)) (gI σ 87 0 0).toNatClampNeg]) (pc' := 400) (L' := [vR 86 0, vR 0 0, vR 51 0, vI x3]) (S' := [vI (gI σ 86 0 (x3 + (2 : Int32)).toNatClampNeg), vI (gI σ 86 0 (x3 + (1 : Int32)).toNatClampNeg), vR 0 0]) (σ' := σ) 11 rfl ⟨h.1, h.2.1, trivial⟩ ?_
  refine WS.callV M_TM_crossings (k := 0) (i := 0) (as := [vI (gI σ 86 0 (x3 + (1 : Int32)).toNatClampNeg), vI (gI σ 86 0 (x3 + (2 : Int32)).toNatClampNeg)]) (rest := []) rfl lk_12_45 rfl rfl rfl (Nat.le_of_ble_eq_true rfl) ?_
  exact h.2.2
set_option maxRecDepth 4000 in
set_option maxHeartbeats 400000 in
theorem b_Law_law_403 {d : Nat} {σ : Mem} {Post : Option AV → Mem → Prop} {x3 sx0 : Int32} (h : vp_in (x3 + (1 : Int32)) (gI σ 87 0 0).toNatClampNeg ∧ vp_in (x3 + (2 : Int32)) (gI σ 87 0 0).toNatClampNeg ∧ MM d M_MD_crossings [vR 51 0, vI (gI σ 86 0 (x3 + (1 : Int32)).toNatClampNeg), vI (gI σ 86 0 (x3 + (2 : Int32)).toNatClampNeg)] σ (fun r τ => WS (d + 1) M_Law_law 417 [vR 86 0, vR 0 0, vR 51 0, vI x3] (r.toList ++ [vI sx0]) τ Post)) : WS (d + 1) M_Law_law 403 [vR 86 0, vR 0 0, vR 51 0, vI x3] [vI sx0] σ Post := by
  refine WS.run (C := [vp_in (x3 + (1 : Int32)) (gI σ 87 0 0).toNatClampNeg, vp_in (x3 + (2 : Int32)) (gI σ 87 0 0).toNatClampNeg]) (pc' := 414) (L' := [vR 86 0, vR 0 0, vR 51 0, vI x3]) (S' := [vI (gI σ 86 0 (x3 + (2 : Int32)).toNatClampNeg), vI (gI σ 86 0 (x3 + (1 : Int32)).toNatClampNeg), vR 51 0, vI sx0]) (σ' := σ) 11 rfl ⟨h.1, h.2.1, trivial⟩ ?_
  refine WS.callV M_MD_crossings (k := 51) (i := 0) (as := [vI (gI σ 86 0 (x3 + (1 : Int32)).toNatClampNeg), vI (gI σ 86 0 (x3 + (2 : Int32)).toNatClampNeg)]) (rest := [vI sx0]) rfl lk_12_48 rfl rfl rfl (Nat.le_of_ble_eq_true rfl) ?_
  exact h.2.2
set_option maxRecDepth 4000 in
set_option maxHeartbeats 400000 in
theorem b_Law_law_417 {d : Nat} {σ : Mem} {Post : Option AV → Mem → Prop} {x3 sx0 sx1 : Int32} (h : ((sx1 = sx0 → WS d M_Law_law 823 [vR 86 0, vR 0 0, vR 51 0, vI x3] [] σ Post) ∧ (¬ (sx1 = sx0) → Post (some (vI (0 : Int32))) σ))) : WS d M_Law_law 417 [vR 86 0, vR 0 0, vR 51 0, vI x3] [vI sx0, vI sx1] σ Post := by
  refine WS.br (P := sx1 = sx0) (a := 823) (b := 420) (S' := []) rfl (fun c11 => ?_) (fun c11 => ?_)
  · exact (h.1 c11)
  · refine WS.run (C := []) (pc' := 421) (L' := [vR 86 0, vR 0 0, vR 51 0, vI x3]) (S' := [vI (0 : Int32)]) (σ' := σ) 1 rfl trivial ?_
    exact WS.ret rfl rfl (by decide) rfl (h.2 c11)
set_option maxRecDepth 4000 in
set_option maxHeartbeats 400000 in
theorem b_Law_law_422 {d : Nat} {σ : Mem} {Post : Option AV → Mem → Prop} {x3 : Int32} (h : MM d M_TM_keep [vR 0 0] σ (fun r τ => WS (d + 1) M_Law_law 426 [vR 86 0, vR 0 0, vR 51 0, vI x3] (r.toList ++ []) τ Post)) : WS (d + 1) M_Law_law 422 [vR 86 0, vR 0 0, vR 51 0, vI x3] [] σ Post := by
  refine WS.run (C := []) (pc' := 423) (L' := [vR 86 0, vR 0 0, vR 51 0, vI x3]) (S' := [vR 0 0]) (σ' := σ) 1 rfl trivial ?_
  refine WS.callV M_TM_keep (k := 0) (i := 0) (as := []) (rest := []) rfl lk_12_49 rfl rfl rfl (Nat.le_of_ble_eq_true rfl) ?_
  exact h
set_option maxRecDepth 4000 in
set_option maxHeartbeats 400000 in
theorem b_Law_law_426 {d : Nat} {σ : Mem} {Post : Option AV → Mem → Prop} {x3 sx0 : Int32} (h : MM d M_MD_keep [vR 51 0] σ (fun r τ => WS (d + 1) M_Law_law 430 [vR 86 0, vR 0 0, vR 51 0, vI x3] (r.toList ++ [vI sx0]) τ Post)) : WS (d + 1) M_Law_law 426 [vR 86 0, vR 0 0, vR 51 0, vI x3] [vI sx0] σ Post := by
  refine WS.run (C := []) (pc' := 427) (L' := [vR 86 0, vR 0 0, vR 51 0, vI x3]) (S' := [vR 51 0, vI sx0]) (σ' := σ) 1 rfl trivial ?_
  refine WS.callV M_MD_keep (k := 51) (i := 0) (as := []) (rest := [vI sx0]) rfl lk_12_53 rfl rfl rfl (Nat.le_of_ble_eq_true rfl) ?_
  exact h
set_option maxRecDepth 4000 in
set_option maxHeartbeats 400000 in
theorem b_Law_law_430 {d : Nat} {σ : Mem} {Post : Option AV → Mem → Prop} {x3 sx0 sx1 : Int32} (h : ((sx1 = sx0 → WS d M_Law_law 823 [vR 86 0, vR 0 0, vR 51 0, vI x3] [] σ Post) ∧ (¬ (sx1 = sx0) → Post (some (vI (0 : Int32))) σ))) : WS d M_Law_law 430 [vR 86 0, vR 0 0, vR 51 0, vI x3] [vI sx0, vI sx1] σ Post := by
  refine WS.br (P := sx1 = sx0) (a := 823) (b := 433) (S' := []) rfl (fun c12 => ?_) (fun c12 => ?_)
  · exact (h.1 c12)
  · refine WS.run (C := []) (pc' := 434) (L' := [vR 86 0, vR 0 0, vR 51 0, vI x3]) (S' := [vI (0 : Int32)]) (σ' := σ) 1 rfl trivial ?_
    exact WS.ret rfl rfl (by decide) rfl (h.2 c12)
set_option maxRecDepth 4000 in
set_option maxHeartbeats 400000 in
theorem b_Law_law_435 {d : Nat} {σ : Mem} {Post : Option AV → Mem → Prop} {x3 : Int32} (h : vp_in (x3 + (1 : Int32)) (gI σ 87 0 0).toNatClampNeg ∧ MM d M_TM_kept [vR 0 0, vI (gI σ 86 0 (x3 + (1 : Int32)).toNatClampNeg)] σ (fun r τ => WS (d + 1) M_Law_law 444 [vR 86 0, vR 0 0, vR 51 0, vI x3] (r.toList ++ []) τ Post)) : WS (d + 1) M_Law_law 435 [vR 86 0, vR 0 0, vR 51 0, vI x3] [] σ Post := by
  refine WS.run (C := [vp_in (x3 + (1 : Int32)) (gI σ 87 0 0).toNatClampNeg]) (pc' := 441) (L' := [vR 86 0, vR 0 0, vR 51 0, vI x3]) (S' := [vI (gI σ 86 0 (x3 + (1 : Int32)).toNatClampNeg), vR 0 0]) (σ' := σ) 6 rfl ⟨h.1, trivial⟩ ?_
  refine WS.callV M_TM_kept (k := 0) (i := 0) (as := [vI (gI σ 86 0 (x3 + (1 : Int32)).toNatClampNeg)]) (rest := []) rfl lk_12_54 rfl rfl rfl (Nat.le_of_ble_eq_true rfl) ?_
  exact h.2
set_option maxRecDepth 4000 in
set_option maxHeartbeats 400000 in
theorem b_Law_law_444 {d : Nat} {σ : Mem} {Post : Option AV → Mem → Prop} {x3 sx0 : Int32} (h : vp_in (x3 + (1 : Int32)) (gI σ 87 0 0).toNatClampNeg ∧ MM d M_MD_kept [vR 51 0, vI (gI σ 86 0 (x3 + (1 : Int32)).toNatClampNeg)] σ (fun r τ => WS (d + 1) M_Law_law 453 [vR 86 0, vR 0 0, vR 51 0, vI x3] (r.toList ++ [vI sx0]) τ Post)) : WS (d + 1) M_Law_law 444 [vR 86 0, vR 0 0, vR 51 0, vI x3] [vI sx0] σ Post := by
  refine WS.run (C := [vp_in (x3 + (1 : Int32)) (gI σ 87 0 0).toNatClampNeg]) (pc' := 450) (L' := [vR 86 0, vR 0 0, vR 51 0, vI x3]) (S' := [vI (gI σ 86 0 (x3 + (1 : Int32)).toNatClampNeg), vR 51 0, vI sx0]) (σ' := σ) 6 rfl ⟨h.1, trivial⟩ ?_
  refine WS.callV M_MD_kept (k := 51) (i := 0) (as := [vI (gI σ 86 0 (x3 + (1 : Int32)).toNatClampNeg)]) (rest := [vI sx0]) rfl lk_12_57 rfl rfl rfl (Nat.le_of_ble_eq_true rfl) ?_
  exact h.2
set_option maxRecDepth 4000 in
set_option maxHeartbeats 400000 in
theorem b_Law_law_453 {d : Nat} {σ : Mem} {Post : Option AV → Mem → Prop} {x3 sx0 sx1 : Int32} (h : ((sx1 = sx0 → WS d M_Law_law 823 [vR 86 0, vR 0 0, vR 51 0, vI x3] [] σ Post) ∧ (¬ (sx1 = sx0) → Post (some (vI (0 : Int32))) σ))) : WS d M_Law_law 453 [vR 86 0, vR 0 0, vR 51 0, vI x3] [vI sx0, vI sx1] σ Post := by
  refine WS.br (P := sx1 = sx0) (a := 823) (b := 456) (S' := []) rfl (fun c13 => ?_) (fun c13 => ?_)
  · exact (h.1 c13)
  · refine WS.run (C := []) (pc' := 457) (L' := [vR 86 0, vR 0 0, vR 51 0, vI x3]) (S' := [vI (0 : Int32)]) (σ' := σ) 1 rfl trivial ?_
    exact WS.ret rfl rfl (by decide) rfl (h.2 c13)
set_option maxRecDepth 4000 in
set_option maxHeartbeats 400000 in
theorem b_Law_law_458 {d : Nat} {σ : Mem} {Post : Option AV → Mem → Prop} {x3 : Int32} (h : vp_in (x3 + (1 : Int32)) (gI σ 87 0 0).toNatClampNeg ∧ MM d M_TM_letter [vR 0 0, vI (gI σ 86 0 (x3 + (1 : Int32)).toNatClampNeg)] σ (fun r τ => WS (d + 1) M_Law_law 467 [vR 86 0, vR 0 0, vR 51 0, vI x3] (r.toList ++ []) τ Post)) : WS (d + 1) M_Law_law 458 [vR 86 0, vR 0 0, vR 51 0, vI x3] [] σ Post := by
  refine WS.run (C := [vp_in (x3 + (1 : Int32)) (gI σ 87 0 0).toNatClampNeg]) (pc' := 464) (L' := [vR 86 0, vR 0 0, vR 51 0, vI x3]) (S' := [vI (gI σ 86 0 (x3 + (1 : Int32)).toNatClampNeg), vR 0 0]) (σ' := σ) 6 rfl ⟨h.1, trivial⟩ ?_
  refine WS.callV M_TM_letter (k := 0) (i := 0) (as := [vI (gI σ 86 0 (x3 + (1 : Int32)).toNatClampNeg)]) (rest := []) rfl lk_12_58 rfl rfl rfl (Nat.le_of_ble_eq_true rfl) ?_
  exact h.2
set_option maxRecDepth 4000 in
set_option maxHeartbeats 400000 in
theorem b_Law_law_467 {d : Nat} {σ : Mem} {Post : Option AV → Mem → Prop} {x3 sx0 : Int32} (h : vp_in (x3 + (1 : Int32)) (gI σ 87 0 0).toNatClampNeg ∧ MM d M_MD_letter [vR 51 0, vI (gI σ 86 0 (x3 + (1 : Int32)).toNatClampNeg)] σ (fun r τ => WS (d + 1) M_Law_law 476 [vR 86 0, vR 0 0, vR 51 0, vI x3] (r.toList ++ [vI sx0]) τ Post)) : WS (d + 1) M_Law_law 467 [vR 86 0, vR 0 0, vR 51 0, vI x3] [vI sx0] σ Post := by
  refine WS.run (C := [vp_in (x3 + (1 : Int32)) (gI σ 87 0 0).toNatClampNeg]) (pc' := 473) (L' := [vR 86 0, vR 0 0, vR 51 0, vI x3]) (S' := [vI (gI σ 86 0 (x3 + (1 : Int32)).toNatClampNeg), vR 51 0, vI sx0]) (σ' := σ) 6 rfl ⟨h.1, trivial⟩ ?_
  refine WS.callV M_MD_letter (k := 51) (i := 0) (as := [vI (gI σ 86 0 (x3 + (1 : Int32)).toNatClampNeg)]) (rest := [vI sx0]) rfl lk_12_61 rfl rfl rfl (Nat.le_of_ble_eq_true rfl) ?_
  exact h.2
set_option maxRecDepth 4000 in
set_option maxHeartbeats 400000 in
theorem b_Law_law_476 {d : Nat} {σ : Mem} {Post : Option AV → Mem → Prop} {x3 sx0 sx1 : Int32} (h : ((sx1 = sx0 → WS d M_Law_law 823 [vR 86 0, vR 0 0, vR 51 0, vI x3] [] σ Post) ∧ (¬ (sx1 = sx0) → Post (some (vI (0 : Int32))) σ))) : WS d M_Law_law 476 [vR 86 0, vR 0 0, vR 51 0, vI x3] [vI sx0, vI sx1] σ Post := by
  refine WS.br (P := sx1 = sx0) (a := 823) (b := 479) (S' := []) rfl (fun c14 => ?_) (fun c14 => ?_)
  · exact (h.1 c14)
  · refine WS.run (C := []) (pc' := 480) (L' := [vR 86 0, vR 0 0, vR 51 0, vI x3]) (S' := [vI (0 : Int32)]) (σ' := σ) 1 rfl trivial ?_
    exact WS.ret rfl rfl (by decide) rfl (h.2 c14)
set_option maxRecDepth 4000 in
set_option maxHeartbeats 400000 in
theorem b_Law_law_481 {d : Nat} {σ : Mem} {Post : Option AV → Mem → Prop} {x3 : Int32} (h : vp_in (x3 + (1 : Int32)) (gI σ 87 0 0).toNatClampNeg ∧ vp_in (x3 + (2 : Int32)) (gI σ 87 0 0).toNatClampNeg ∧ MM d M_TM_contract [vR 0 0, vI (gI σ 86 0 (x3 + (1 : Int32)).toNatClampNeg), vI (gI σ 86 0 (x3 + (2 : Int32)).toNatClampNeg)] σ (fun r τ => WS (d + 1) M_Law_law 495 [vR 86 0, vR 0 0, vR 51 0, vI x3] (r.toList ++ []) τ Post)) : WS (d + 1) M_Law_law 481 [vR 86 0, vR 0 0, vR 51 0, vI x3] [] σ Post := by
  refine WS.run (C := [vp_in (x3 + (1 : Int32)) (gI σ 87 0 0).toNatClampNeg, vp_in (x3 + (2 : Int32)) (gI σ 87 0 0).toNatClampNeg]) (pc' := 492) (L' := [vR 86 0, vR 0 0, vR 51 0, vI x3]) (S' := [vI (gI σ 86 0 (x3 + (2 : Int32)).toNatClampNeg), vI (gI σ 86 0 (x3 + (1 : Int32)).toNatClampNeg), vR 0 0]) (σ' := σ) 11 rfl ⟨h.1, h.2.1, trivial⟩ ?_
  refine WS.callV M_TM_contract (k := 0) (i := 0) (as := [vI (gI σ 86 0 (x3 + (1 : Int32)).toNatClampNeg), vI (gI σ 86 0 (x3 + (2 : Int32)).toNatClampNeg)]) (rest := []) rfl lk_12_62 rfl rfl rfl (Nat.le_of_ble_eq_true rfl) ?_
  exact h.2.2
set_option maxRecDepth 4000 in
set_option maxHeartbeats 400000 in
theorem b_Law_law_495 {d : Nat} {σ : Mem} {Post : Option AV → Mem → Prop} {x3 sx0 : Int32} (h : vp_in (x3 + (1 : Int32)) (gI σ 87 0 0).toNatClampNeg ∧ vp_in (x3 + (2 : Int32)) (gI σ 87 0 0).toNatClampNeg ∧ MM d M_MD_contract [vR 51 0, vI (gI σ 86 0 (x3 + (1 : Int32)).toNatClampNeg), vI (gI σ 86 0 (x3 + (2 : Int32)).toNatClampNeg)] σ (fun r τ => WS (d + 1) M_Law_law 509 [vR 86 0, vR 0 0, vR 51 0, vI x3] (r.toList ++ [vI sx0]) τ Post)) : WS (d + 1) M_Law_law 495 [vR 86 0, vR 0 0, vR 51 0, vI x3] [vI sx0] σ Post := by
  refine WS.run (C := [vp_in (x3 + (1 : Int32)) (gI σ 87 0 0).toNatClampNeg, vp_in (x3 + (2 : Int32)) (gI σ 87 0 0).toNatClampNeg]) (pc' := 506) (L' := [vR 86 0, vR 0 0, vR 51 0, vI x3]) (S' := [vI (gI σ 86 0 (x3 + (2 : Int32)).toNatClampNeg), vI (gI σ 86 0 (x3 + (1 : Int32)).toNatClampNeg), vR 51 0, vI sx0]) (σ' := σ) 11 rfl ⟨h.1, h.2.1, trivial⟩ ?_
  refine WS.callV M_MD_contract (k := 51) (i := 0) (as := [vI (gI σ 86 0 (x3 + (1 : Int32)).toNatClampNeg), vI (gI σ 86 0 (x3 + (2 : Int32)).toNatClampNeg)]) (rest := [vI sx0]) rfl lk_12_66 rfl rfl rfl (Nat.le_of_ble_eq_true rfl) ?_
  exact h.2.2
set_option maxRecDepth 4000 in
set_option maxHeartbeats 400000 in
theorem b_Law_law_509 {d : Nat} {σ : Mem} {Post : Option AV → Mem → Prop} {x3 sx0 sx1 : Int32} (h : ((sx1 = sx0 → WS d M_Law_law 823 [vR 86 0, vR 0 0, vR 51 0, vI x3] [] σ Post) ∧ (¬ (sx1 = sx0) → Post (some (vI (0 : Int32))) σ))) : WS d M_Law_law 509 [vR 86 0, vR 0 0, vR 51 0, vI x3] [vI sx0, vI sx1] σ Post := by
  refine WS.br (P := sx1 = sx0) (a := 823) (b := 512) (S' := []) rfl (fun c15 => ?_) (fun c15 => ?_)
  · exact (h.1 c15)
  · refine WS.run (C := []) (pc' := 513) (L' := [vR 86 0, vR 0 0, vR 51 0, vI x3]) (S' := [vI (0 : Int32)]) (σ' := σ) 1 rfl trivial ?_
    exact WS.ret rfl rfl (by decide) rfl (h.2 c15)
set_option maxRecDepth 4000 in
set_option maxHeartbeats 400000 in
theorem b_Law_law_514 {d : Nat} {σ : Mem} {Post : Option AV → Mem → Prop} {x3 : Int32} (h : vp_in (x3 + (1 : Int32)) (gI σ 87 0 0).toNatClampNeg ∧ vp_in (x3 + (2 : Int32)) (gI σ 87 0 0).toNatClampNeg ∧ vp_in (x3 + (3 : Int32)) (gI σ 87 0 0).toNatClampNeg ∧ vp_in (x3 + (4 : Int32)) (gI σ 87 0 0).toNatClampNeg ∧ MM d M_TM_name [vR 0 0, vI (gI σ 86 0 (x3 + (1 : Int32)).toNatClampNeg), vI (gI σ 86 0 (x3 + (2 : Int32)).toNatClampNeg), vI (gI σ 86 0 (x3 + (3 : Int32)).toNatClampNeg), vI (gI σ 86 0 (x3 + (4 : Int32)).toNatClampNeg)] σ (fun r τ => WS (d + 1) M_Law_law 538 [vR 86 0, vR 0 0, vR 51 0, vI x3] (r.toList ++ []) τ Post)) : WS (d + 1) M_Law_law 514 [vR 86 0, vR 0 0, vR 51 0, vI x3] [] σ Post := by
  refine WS.run (C := [vp_in (x3 + (1 : Int32)) (gI σ 87 0 0).toNatClampNeg, vp_in (x3 + (2 : Int32)) (gI σ 87 0 0).toNatClampNeg, vp_in (x3 + (3 : Int32)) (gI σ 87 0 0).toNatClampNeg, vp_in (x3 + (4 : Int32)) (gI σ 87 0 0).toNatClampNeg]) (pc' := 535) (L' := [vR 86 0, vR 0 0, vR 51 0, vI x3]) (S' := [vI (gI σ 86 0 (x3 + (4 : Int32)).toNatClampNeg), vI (gI σ 86 0 (x3 + (3 : Int32)).toNatClampNeg), vI (gI σ 86 0 (x3 + (2 : Int32)).toNatClampNeg), vI (gI σ 86 0 (x3 + (1 : Int32)).toNatClampNeg), vR 0 0]) (σ' := σ) 21 rfl ⟨h.1, h.2.1, h.2.2.1, h.2.2.2.1, trivial⟩ ?_
  refine WS.callV M_TM_name (k := 0) (i := 0) (as := [vI (gI σ 86 0 (x3 + (1 : Int32)).toNatClampNeg), vI (gI σ 86 0 (x3 + (2 : Int32)).toNatClampNeg), vI (gI σ 86 0 (x3 + (3 : Int32)).toNatClampNeg), vI (gI σ 86 0 (x3 + (4 : Int32)).toNatClampNeg)]) (rest := []) rfl lk_12_67 rfl rfl rfl (Nat.le_of_ble_eq_true rfl) ?_
  exact h.2.2.2.2
set_option maxRecDepth 4000 in
set_option maxHeartbeats 400000 in
theorem b_Law_law_538 {d : Nat} {σ : Mem} {Post : Option AV → Mem → Prop} {x3 sx0 : Int32} (h : vp_in (x3 + (1 : Int32)) (gI σ 87 0 0).toNatClampNeg ∧ vp_in (x3 + (2 : Int32)) (gI σ 87 0 0).toNatClampNeg ∧ vp_in (x3 + (3 : Int32)) (gI σ 87 0 0).toNatClampNeg ∧ vp_in (x3 + (4 : Int32)) (gI σ 87 0 0).toNatClampNeg ∧ MM d M_MD_name [vR 51 0, vI (gI σ 86 0 (x3 + (1 : Int32)).toNatClampNeg), vI (gI σ 86 0 (x3 + (2 : Int32)).toNatClampNeg), vI (gI σ 86 0 (x3 + (3 : Int32)).toNatClampNeg), vI (gI σ 86 0 (x3 + (4 : Int32)).toNatClampNeg)] σ (fun r τ => WS (d + 1) M_Law_law 562 [vR 86 0, vR 0 0, vR 51 0, vI x3] (r.toList ++ [vI sx0]) τ Post)) : WS (d + 1) M_Law_law 538 [vR 86 0, vR 0 0, vR 51 0, vI x3] [vI sx0] σ Post := by
  refine WS.run (C := [vp_in (x3 + (1 : Int32)) (gI σ 87 0 0).toNatClampNeg, vp_in (x3 + (2 : Int32)) (gI σ 87 0 0).toNatClampNeg, vp_in (x3 + (3 : Int32)) (gI σ 87 0 0).toNatClampNeg, vp_in (x3 + (4 : Int32)) (gI σ 87 0 0).toNatClampNeg]) (pc' := 559) (L' := [vR 86 0, vR 0 0, vR 51 0, vI x3]) (S' := [vI (gI σ 86 0 (x3 + (4 : Int32)).toNatClampNeg), vI (gI σ 86 0 (x3 + (3 : Int32)).toNatClampNeg), vI (gI σ 86 0 (x3 + (2 : Int32)).toNatClampNeg), vI (gI σ 86 0 (x3 + (1 : Int32)).toNatClampNeg), vR 51 0, vI sx0]) (σ' := σ) 21 rfl ⟨h.1, h.2.1, h.2.2.1, h.2.2.2.1, trivial⟩ ?_
  refine WS.callV M_MD_name (k := 51) (i := 0) (as := [vI (gI σ 86 0 (x3 + (1 : Int32)).toNatClampNeg), vI (gI σ 86 0 (x3 + (2 : Int32)).toNatClampNeg), vI (gI σ 86 0 (x3 + (3 : Int32)).toNatClampNeg), vI (gI σ 86 0 (x3 + (4 : Int32)).toNatClampNeg)]) (rest := [vI sx0]) rfl lk_12_71 rfl rfl rfl (Nat.le_of_ble_eq_true rfl) ?_
  exact h.2.2.2.2
set_option maxRecDepth 4000 in
set_option maxHeartbeats 400000 in
theorem b_Law_law_562 {d : Nat} {σ : Mem} {Post : Option AV → Mem → Prop} {x3 sx0 sx1 : Int32} (h : ((sx1 = sx0 → WS d M_Law_law 823 [vR 86 0, vR 0 0, vR 51 0, vI x3] [] σ Post) ∧ (¬ (sx1 = sx0) → Post (some (vI (0 : Int32))) σ))) : WS d M_Law_law 562 [vR 86 0, vR 0 0, vR 51 0, vI x3] [vI sx0, vI sx1] σ Post := by
  refine WS.br (P := sx1 = sx0) (a := 823) (b := 565) (S' := []) rfl (fun c16 => ?_) (fun c16 => ?_)
  · exact (h.1 c16)
  · refine WS.run (C := []) (pc' := 566) (L' := [vR 86 0, vR 0 0, vR 51 0, vI x3]) (S' := [vI (0 : Int32)]) (σ' := σ) 1 rfl trivial ?_
    exact WS.ret rfl rfl (by decide) rfl (h.2 c16)
set_option maxRecDepth 4000 in
set_option maxHeartbeats 400000 in
theorem b_Law_law_567 {d : Nat} {σ : Mem} {Post : Option AV → Mem → Prop} {x3 : Int32} (h : vp_in (x3 + (1 : Int32)) (gI σ 87 0 0).toNatClampNeg ∧ MM d M_TM_erase [vR 0 0, vI (gI σ 86 0 (x3 + (1 : Int32)).toNatClampNeg)] σ (fun r τ => WS (d + 1) M_Law_law 576 [vR 86 0, vR 0 0, vR 51 0, vI x3] (r.toList ++ []) τ Post)) : WS (d + 1) M_Law_law 567 [vR 86 0, vR 0 0, vR 51 0, vI x3] [] σ Post := by
  refine WS.run (C := [vp_in (x3 + (1 : Int32)) (gI σ 87 0 0).toNatClampNeg]) (pc' := 573) (L' := [vR 86 0, vR 0 0, vR 51 0, vI x3]) (S' := [vI (gI σ 86 0 (x3 + (1 : Int32)).toNatClampNeg), vR 0 0]) (σ' := σ) 6 rfl ⟨h.1, trivial⟩ ?_
  refine WS.callV M_TM_erase (k := 0) (i := 0) (as := [vI (gI σ 86 0 (x3 + (1 : Int32)).toNatClampNeg)]) (rest := []) rfl lk_12_72 rfl rfl rfl (Nat.le_of_ble_eq_true rfl) ?_
  exact h.2
set_option maxRecDepth 4000 in
set_option maxHeartbeats 400000 in
theorem b_Law_law_576 {d : Nat} {σ : Mem} {Post : Option AV → Mem → Prop} {x3 sx0 : Int32} (h : vp_in (x3 + (1 : Int32)) (gI σ 87 0 0).toNatClampNeg ∧ MM d M_MD_erase [vR 51 0, vI (gI σ 86 0 (x3 + (1 : Int32)).toNatClampNeg)] σ (fun r τ => WS (d + 1) M_Law_law 585 [vR 86 0, vR 0 0, vR 51 0, vI x3] (r.toList ++ [vI sx0]) τ Post)) : WS (d + 1) M_Law_law 576 [vR 86 0, vR 0 0, vR 51 0, vI x3] [vI sx0] σ Post := by
  refine WS.run (C := [vp_in (x3 + (1 : Int32)) (gI σ 87 0 0).toNatClampNeg]) (pc' := 582) (L' := [vR 86 0, vR 0 0, vR 51 0, vI x3]) (S' := [vI (gI σ 86 0 (x3 + (1 : Int32)).toNatClampNeg), vR 51 0, vI sx0]) (σ' := σ) 6 rfl ⟨h.1, trivial⟩ ?_
  refine WS.callV M_MD_erase (k := 51) (i := 0) (as := [vI (gI σ 86 0 (x3 + (1 : Int32)).toNatClampNeg)]) (rest := [vI sx0]) rfl lk_12_76 rfl rfl rfl (Nat.le_of_ble_eq_true rfl) ?_
  exact h.2
set_option maxRecDepth 4000 in
set_option maxHeartbeats 400000 in
theorem b_Law_law_585 {d : Nat} {σ : Mem} {Post : Option AV → Mem → Prop} {x3 sx0 sx1 : Int32} (h : ((sx1 = sx0 → WS d M_Law_law 823 [vR 86 0, vR 0 0, vR 51 0, vI x3] [] σ Post) ∧ (¬ (sx1 = sx0) → Post (some (vI (0 : Int32))) σ))) : WS d M_Law_law 585 [vR 86 0, vR 0 0, vR 51 0, vI x3] [vI sx0, vI sx1] σ Post := by
  refine WS.br (P := sx1 = sx0) (a := 823) (b := 588) (S' := []) rfl (fun c17 => ?_) (fun c17 => ?_)
  · exact (h.1 c17)
  · refine WS.run (C := []) (pc' := 589) (L' := [vR 86 0, vR 0 0, vR 51 0, vI x3]) (S' := [vI (0 : Int32)]) (σ' := σ) 1 rfl trivial ?_
    exact WS.ret rfl rfl (by decide) rfl (h.2 c17)
set_option maxRecDepth 4000 in
set_option maxHeartbeats 400000 in
theorem b_Law_law_590 {d : Nat} {σ : Mem} {Post : Option AV → Mem → Prop} {x3 : Int32} (h : vp_in (x3 + (1 : Int32)) (gI σ 87 0 0).toNatClampNeg ∧ vp_in (x3 + (2 : Int32)) (gI σ 87 0 0).toNatClampNeg ∧ MM d M_TM_cell [vR 0 0, vI (gI σ 86 0 (x3 + (1 : Int32)).toNatClampNeg), vI (gI σ 86 0 (x3 + (2 : Int32)).toNatClampNeg)] σ (fun r τ => WS (d + 1) M_Law_law 604 [vR 86 0, vR 0 0, vR 51 0, vI x3] (r.toList ++ []) τ Post)) : WS (d + 1) M_Law_law 590 [vR 86 0, vR 0 0, vR 51 0, vI x3] [] σ Post := by
  refine WS.run (C := [vp_in (x3 + (1 : Int32)) (gI σ 87 0 0).toNatClampNeg, vp_in (x3 + (2 : Int32)) (gI σ 87 0 0).toNatClampNeg]) (pc' := 601) (L' := [vR 86 0, vR 0 0, vR 51 0, vI x3]) (S' := [vI (gI σ 86 0 (x3 + (2 : Int32)).toNatClampNeg), vI (gI σ 86 0 (x3 + (1 : Int32)).toNatClampNeg), vR 0 0]) (σ' := σ) 11 rfl ⟨h.1, h.2.1, trivial⟩ ?_
  refine WS.callV M_TM_cell (k := 0) (i := 0) (as := [vI (gI σ 86 0 (x3 + (1 : Int32)).toNatClampNeg), vI (gI σ 86 0 (x3 + (2 : Int32)).toNatClampNeg)]) (rest := []) rfl lk_12_77 rfl rfl rfl (Nat.le_of_ble_eq_true rfl) ?_
  exact h.2.2
set_option maxRecDepth 4000 in
set_option maxHeartbeats 400000 in
theorem b_Law_law_604 {d : Nat} {σ : Mem} {Post : Option AV → Mem → Prop} {x3 sx0 : Int32} (h : vp_in (x3 + (1 : Int32)) (gI σ 87 0 0).toNatClampNeg ∧ vp_in (x3 + (2 : Int32)) (gI σ 87 0 0).toNatClampNeg ∧ MM d M_MD_cell [vR 51 0, vI (gI σ 86 0 (x3 + (1 : Int32)).toNatClampNeg), vI (gI σ 86 0 (x3 + (2 : Int32)).toNatClampNeg)] σ (fun r τ => WS (d + 1) M_Law_law 618 [vR 86 0, vR 0 0, vR 51 0, vI x3] (r.toList ++ [vI sx0]) τ Post)) : WS (d + 1) M_Law_law 604 [vR 86 0, vR 0 0, vR 51 0, vI x3] [vI sx0] σ Post := by
  refine WS.run (C := [vp_in (x3 + (1 : Int32)) (gI σ 87 0 0).toNatClampNeg, vp_in (x3 + (2 : Int32)) (gI σ 87 0 0).toNatClampNeg]) (pc' := 615) (L' := [vR 86 0, vR 0 0, vR 51 0, vI x3]) (S' := [vI (gI σ 86 0 (x3 + (2 : Int32)).toNatClampNeg), vI (gI σ 86 0 (x3 + (1 : Int32)).toNatClampNeg), vR 51 0, vI sx0]) (σ' := σ) 11 rfl ⟨h.1, h.2.1, trivial⟩ ?_
  refine WS.callV M_MD_cell (k := 51) (i := 0) (as := [vI (gI σ 86 0 (x3 + (1 : Int32)).toNatClampNeg), vI (gI σ 86 0 (x3 + (2 : Int32)).toNatClampNeg)]) (rest := [vI sx0]) rfl lk_12_80 rfl rfl rfl (Nat.le_of_ble_eq_true rfl) ?_
  exact h.2.2
set_option maxRecDepth 4000 in
set_option maxHeartbeats 400000 in
theorem b_Law_law_618 {d : Nat} {σ : Mem} {Post : Option AV → Mem → Prop} {x3 sx0 sx1 : Int32} (h : ((sx1 = sx0 → WS d M_Law_law 823 [vR 86 0, vR 0 0, vR 51 0, vI x3] [] σ Post) ∧ (¬ (sx1 = sx0) → Post (some (vI (0 : Int32))) σ))) : WS d M_Law_law 618 [vR 86 0, vR 0 0, vR 51 0, vI x3] [vI sx0, vI sx1] σ Post := by
  refine WS.br (P := sx1 = sx0) (a := 823) (b := 621) (S' := []) rfl (fun c18 => ?_) (fun c18 => ?_)
  · exact (h.1 c18)
  · refine WS.run (C := []) (pc' := 622) (L' := [vR 86 0, vR 0 0, vR 51 0, vI x3]) (S' := [vI (0 : Int32)]) (σ' := σ) 1 rfl trivial ?_
    exact WS.ret rfl rfl (by decide) rfl (h.2 c18)
set_option maxRecDepth 4000 in
set_option maxHeartbeats 400000 in
theorem b_Law_law_623 {d : Nat} {σ : Mem} {Post : Option AV → Mem → Prop} {x3 : Int32} (h : MM d M_TM_set [vR 0 0] σ (fun r τ => WS (d + 1) M_Law_law 627 [vR 86 0, vR 0 0, vR 51 0, vI x3] (r.toList ++ []) τ Post)) : WS (d + 1) M_Law_law 623 [vR 86 0, vR 0 0, vR 51 0, vI x3] [] σ Post := by
  refine WS.run (C := []) (pc' := 624) (L' := [vR 86 0, vR 0 0, vR 51 0, vI x3]) (S' := [vR 0 0]) (σ' := σ) 1 rfl trivial ?_
  refine WS.callV M_TM_set (k := 0) (i := 0) (as := []) (rest := []) rfl lk_12_81 rfl rfl rfl (Nat.le_of_ble_eq_true rfl) ?_
  exact h
set_option maxRecDepth 4000 in
set_option maxHeartbeats 400000 in
theorem b_Law_law_627 {d : Nat} {σ : Mem} {Post : Option AV → Mem → Prop} {x3 sx0 : Int32} (h : MM d M_MD_set [vR 51 0] σ (fun r τ => WS (d + 1) M_Law_law 631 [vR 86 0, vR 0 0, vR 51 0, vI x3] (r.toList ++ [vI sx0]) τ Post)) : WS (d + 1) M_Law_law 627 [vR 86 0, vR 0 0, vR 51 0, vI x3] [vI sx0] σ Post := by
  refine WS.run (C := []) (pc' := 628) (L' := [vR 86 0, vR 0 0, vR 51 0, vI x3]) (S' := [vR 51 0, vI sx0]) (σ' := σ) 1 rfl trivial ?_
  refine WS.callV M_MD_set (k := 51) (i := 0) (as := []) (rest := [vI sx0]) rfl lk_12_84 rfl rfl rfl (Nat.le_of_ble_eq_true rfl) ?_
  exact h
set_option maxRecDepth 4000 in
set_option maxHeartbeats 400000 in
theorem b_Law_law_631 {d : Nat} {σ : Mem} {Post : Option AV → Mem → Prop} {x3 sx0 sx1 : Int32} (h : ((sx1 = sx0 → WS d M_Law_law 823 [vR 86 0, vR 0 0, vR 51 0, vI x3] [] σ Post) ∧ (¬ (sx1 = sx0) → Post (some (vI (0 : Int32))) σ))) : WS d M_Law_law 631 [vR 86 0, vR 0 0, vR 51 0, vI x3] [vI sx0, vI sx1] σ Post := by
  refine WS.br (P := sx1 = sx0) (a := 823) (b := 634) (S' := []) rfl (fun c19 => ?_) (fun c19 => ?_)
  · exact (h.1 c19)
  · refine WS.run (C := []) (pc' := 635) (L' := [vR 86 0, vR 0 0, vR 51 0, vI x3]) (S' := [vI (0 : Int32)]) (σ' := σ) 1 rfl trivial ?_
    exact WS.ret rfl rfl (by decide) rfl (h.2 c19)
set_option maxRecDepth 4000 in
set_option maxHeartbeats 400000 in
theorem b_Law_law_636 {d : Nat} {σ : Mem} {Post : Option AV → Mem → Prop} {x3 : Int32} (h : vp_in (x3 + (1 : Int32)) (gI σ 87 0 0).toNatClampNeg ∧ MM d M_TM_spot [vR 0 0, vI (gI σ 86 0 (x3 + (1 : Int32)).toNatClampNeg)] σ (fun r τ => WS (d + 1) M_Law_law 645 [vR 86 0, vR 0 0, vR 51 0, vI x3] (r.toList ++ []) τ Post)) : WS (d + 1) M_Law_law 636 [vR 86 0, vR 0 0, vR 51 0, vI x3] [] σ Post := by
  refine WS.run (C := [vp_in (x3 + (1 : Int32)) (gI σ 87 0 0).toNatClampNeg]) (pc' := 642) (L' := [vR 86 0, vR 0 0, vR 51 0, vI x3]) (S' := [vI (gI σ 86 0 (x3 + (1 : Int32)).toNatClampNeg), vR 0 0]) (σ' := σ) 6 rfl ⟨h.1, trivial⟩ ?_
  refine WS.callV M_TM_spot (k := 0) (i := 0) (as := [vI (gI σ 86 0 (x3 + (1 : Int32)).toNatClampNeg)]) (rest := []) rfl lk_12_85 rfl rfl rfl (Nat.le_of_ble_eq_true rfl) ?_
  exact h.2
set_option maxRecDepth 4000 in
set_option maxHeartbeats 400000 in
theorem b_Law_law_645 {d : Nat} {σ : Mem} {Post : Option AV → Mem → Prop} {x3 sx0 : Int32} (h : vp_in (x3 + (1 : Int32)) (gI σ 87 0 0).toNatClampNeg ∧ MM d M_MD_spot [vR 51 0, vI (gI σ 86 0 (x3 + (1 : Int32)).toNatClampNeg)] σ (fun r τ => WS (d + 1) M_Law_law 654 [vR 86 0, vR 0 0, vR 51 0, vI x3] (r.toList ++ [vI sx0]) τ Post)) : WS (d + 1) M_Law_law 645 [vR 86 0, vR 0 0, vR 51 0, vI x3] [vI sx0] σ Post := by
  refine WS.run (C := [vp_in (x3 + (1 : Int32)) (gI σ 87 0 0).toNatClampNeg]) (pc' := 651) (L' := [vR 86 0, vR 0 0, vR 51 0, vI x3]) (S' := [vI (gI σ 86 0 (x3 + (1 : Int32)).toNatClampNeg), vR 51 0, vI sx0]) (σ' := σ) 6 rfl ⟨h.1, trivial⟩ ?_
  refine WS.callV M_MD_spot (k := 51) (i := 0) (as := [vI (gI σ 86 0 (x3 + (1 : Int32)).toNatClampNeg)]) (rest := [vI sx0]) rfl lk_12_88 rfl rfl rfl (Nat.le_of_ble_eq_true rfl) ?_
  exact h.2
set_option maxRecDepth 4000 in
set_option maxHeartbeats 400000 in
theorem b_Law_law_654 {d : Nat} {σ : Mem} {Post : Option AV → Mem → Prop} {x3 sx0 sx1 : Int32} (h : ((sx1 = sx0 → WS d M_Law_law 823 [vR 86 0, vR 0 0, vR 51 0, vI x3] [] σ Post) ∧ (¬ (sx1 = sx0) → Post (some (vI (0 : Int32))) σ))) : WS d M_Law_law 654 [vR 86 0, vR 0 0, vR 51 0, vI x3] [vI sx0, vI sx1] σ Post := by
  refine WS.br (P := sx1 = sx0) (a := 823) (b := 657) (S' := []) rfl (fun c20 => ?_) (fun c20 => ?_)
  · exact (h.1 c20)
  · refine WS.run (C := []) (pc' := 658) (L' := [vR 86 0, vR 0 0, vR 51 0, vI x3]) (S' := [vI (0 : Int32)]) (σ' := σ) 1 rfl trivial ?_
    exact WS.ret rfl rfl (by decide) rfl (h.2 c20)
set_option maxRecDepth 4000 in
set_option maxHeartbeats 400000 in
theorem b_Law_law_659 {d : Nat} {σ : Mem} {Post : Option AV → Mem → Prop} {x3 : Int32} (h : vp_in (x3 + (1 : Int32)) (gI σ 87 0 0).toNatClampNeg ∧ vp_in (x3 + (2 : Int32)) (gI σ 87 0 0).toNatClampNeg ∧ vp_in (x3 + (3 : Int32)) (gI σ 87 0 0).toNatClampNeg ∧ (((gI σ 86 0 (x3 + (3 : Int32)).toNatClampNeg) = 0 → MM d M_TM_touch [vR 0 0, vI (gI σ 86 0 (x3 + (1 : Int32)).toNatClampNeg), vI (gI σ 86 0 (x3 + (2 : Int32)).toNatClampNeg), vI (0 : Int32)] σ (fun r τ => WS (d + 1) M_Law_law 686 [vR 86 0, vR 0 0, vR 51 0, vI x3] (r.toList ++ []) τ Post)) ∧ (¬ ((gI σ 86 0 (x3 + (3 : Int32)).toNatClampNeg) = 0) → MM d M_TM_touch [vR 0 0, vI (gI σ 86 0 (x3 + (1 : Int32)).toNatClampNeg), vI (gI σ 86 0 (x3 + (2 : Int32)).toNatClampNeg), vI (1 : Int32)] σ (fun r τ => WS (d + 1) M_Law_law 686 [vR 86 0, vR 0 0, vR 51 0, vI x3] (r.toList ++ []) τ Post)))) : WS (d + 1) M_Law_law 659 [vR 86 0, vR 0 0, vR 51 0, vI x3] [] σ Post := by
  refine WS.run (C := [vp_in (x3 + (1 : Int32)) (gI σ 87 0 0).toNatClampNeg, vp_in (x3 + (2 : Int32)) (gI σ 87 0 0).toNatClampNeg, vp_in (x3 + (3 : Int32)) (gI σ 87 0 0).toNatClampNeg]) (pc' := 675) (L' := [vR 86 0, vR 0 0, vR 51 0, vI x3]) (S' := [vI (gI σ 86 0 (x3 + (3 : Int32)).toNatClampNeg), vI (gI σ 86 0 (x3 + (2 : Int32)).toNatClampNeg), vI (gI σ 86 0 (x3 + (1 : Int32)).toNatClampNeg), vR 0 0]) (σ' := σ) 16 rfl ⟨h.1, h.2.1, h.2.2.1, trivial⟩ ?_
  refine WS.br (P := (gI σ 86 0 (x3 + (3 : Int32)).toNatClampNeg) = 0) (a := 682) (b := 678) (S' := [vI (gI σ 86 0 (x3 + (2 : Int32)).toNatClampNeg), vI (gI σ 86 0 (x3 + (1 : Int32)).toNatClampNeg), vR 0 0]) rfl (fun c21 => ?_) (fun c21 => ?_)
  · refine WS.run (C := []) (pc' := 683) (L' := [vR 86 0, vR 0 0, vR 51 0, vI x3]) (S' := [vI (0 : Int32), vI (gI σ 86 0 (x3 + (2 : Int32)).toNatClampNeg), vI (gI σ 86 0 (x3 + (1 : Int32)).toNatClampNeg), vR 0 0]) (σ' := σ) 1 rfl trivial ?_
    refine WS.callV M_TM_touch (k := 0) (i := 0) (as := [vI (gI σ 86 0 (x3 + (1 : Int32)).toNatClampNeg), vI (gI σ 86 0 (x3 + (2 : Int32)).toNatClampNeg), vI (0 : Int32)]) (rest := []) rfl lk_12_89 rfl rfl rfl (Nat.le_of_ble_eq_true rfl) ?_
    exact (h.2.2.2.1 c21)
  · refine WS.run (C := []) (pc' := 683) (L' := [vR 86 0, vR 0 0, vR 51 0, vI x3]) (S' := [vI (1 : Int32), vI (gI σ 86 0 (x3 + (2 : Int32)).toNatClampNeg), vI (gI σ 86 0 (x3 + (1 : Int32)).toNatClampNeg), vR 0 0]) (σ' := σ) 2 rfl trivial ?_
    refine WS.callV M_TM_touch (k := 0) (i := 0) (as := [vI (gI σ 86 0 (x3 + (1 : Int32)).toNatClampNeg), vI (gI σ 86 0 (x3 + (2 : Int32)).toNatClampNeg), vI (1 : Int32)]) (rest := []) rfl lk_12_89 rfl rfl rfl (Nat.le_of_ble_eq_true rfl) ?_
    exact (h.2.2.2.2 c21)
set_option maxRecDepth 4000 in
set_option maxHeartbeats 400000 in
theorem b_Law_law_686 {d : Nat} {σ : Mem} {Post : Option AV → Mem → Prop} {x3 sx0 : Int32} (h : vp_in (x3 + (1 : Int32)) (gI σ 87 0 0).toNatClampNeg ∧ vp_in (x3 + (2 : Int32)) (gI σ 87 0 0).toNatClampNeg ∧ vp_in (x3 + (3 : Int32)) (gI σ 87 0 0).toNatClampNeg ∧ (((gI σ 86 0 (x3 + (3 : Int32)).toNatClampNeg) = 0 → MM d M_MD_touch [vR 51 0, vI (gI σ 86 0 (x3 + (1 : Int32)).toNatClampNeg), vI (gI σ 86 0 (x3 + (2 : Int32)).toNatClampNeg), vI (0 : Int32)] σ (fun r τ => WS (d + 1) M_Law_law 713 [vR 86 0, vR 0 0, vR 51 0, vI x3] (r.toList ++ [vI sx0]) τ Post)) ∧ (¬ ((gI σ 86 0 (x3 + (3 : Int32)).toNatClampNeg) = 0) → MM d M_MD_touch [vR 51 0, vI (gI σ 86 0 (x3 + (1 : Int32)).toNatClampNeg), vI (gI σ 86 0 (x3 + (2 : Int32)).toNatClampNeg), vI (1 : Int32)] σ (fun r τ => WS (d + 1) M_Law_law 713 [vR 86 0, vR 0 0, vR 51 0, vI x3] (r.toList ++ [vI sx0]) τ Post)))) : WS (d + 1) M_Law_law 686 [vR 86 0, vR 0 0, vR 51 0, vI x3] [vI sx0] σ Post := by
  refine WS.run (C := [vp_in (x3 + (1 : Int32)) (gI σ 87 0 0).toNatClampNeg, vp_in (x3 + (2 : Int32)) (gI σ 87 0 0).toNatClampNeg, vp_in (x3 + (3 : Int32)) (gI σ 87 0 0).toNatClampNeg]) (pc' := 702) (L' := [vR 86 0, vR 0 0, vR 51 0, vI x3]) (S' := [vI (gI σ 86 0 (x3 + (3 : Int32)).toNatClampNeg), vI (gI σ 86 0 (x3 + (2 : Int32)).toNatClampNeg), vI (gI σ 86 0 (x3 + (1 : Int32)).toNatClampNeg), vR 51 0, vI sx0]) (σ' := σ) 16 rfl ⟨h.1, h.2.1, h.2.2.1, trivial⟩ ?_
  refine WS.br (P := (gI σ 86 0 (x3 + (3 : Int32)).toNatClampNeg) = 0) (a := 709) (b := 705) (S' := [vI (gI σ 86 0 (x3 + (2 : Int32)).toNatClampNeg), vI (gI σ 86 0 (x3 + (1 : Int32)).toNatClampNeg), vR 51 0, vI sx0]) rfl (fun c22 => ?_) (fun c22 => ?_)
  · refine WS.run (C := []) (pc' := 710) (L' := [vR 86 0, vR 0 0, vR 51 0, vI x3]) (S' := [vI (0 : Int32), vI (gI σ 86 0 (x3 + (2 : Int32)).toNatClampNeg), vI (gI σ 86 0 (x3 + (1 : Int32)).toNatClampNeg), vR 51 0, vI sx0]) (σ' := σ) 1 rfl trivial ?_
    refine WS.callV M_MD_touch (k := 51) (i := 0) (as := [vI (gI σ 86 0 (x3 + (1 : Int32)).toNatClampNeg), vI (gI σ 86 0 (x3 + (2 : Int32)).toNatClampNeg), vI (0 : Int32)]) (rest := [vI sx0]) rfl lk_12_92 rfl rfl rfl (Nat.le_of_ble_eq_true rfl) ?_
    exact (h.2.2.2.1 c22)
  · refine WS.run (C := []) (pc' := 710) (L' := [vR 86 0, vR 0 0, vR 51 0, vI x3]) (S' := [vI (1 : Int32), vI (gI σ 86 0 (x3 + (2 : Int32)).toNatClampNeg), vI (gI σ 86 0 (x3 + (1 : Int32)).toNatClampNeg), vR 51 0, vI sx0]) (σ' := σ) 2 rfl trivial ?_
    refine WS.callV M_MD_touch (k := 51) (i := 0) (as := [vI (gI σ 86 0 (x3 + (1 : Int32)).toNatClampNeg), vI (gI σ 86 0 (x3 + (2 : Int32)).toNatClampNeg), vI (1 : Int32)]) (rest := [vI sx0]) rfl lk_12_92 rfl rfl rfl (Nat.le_of_ble_eq_true rfl) ?_
    exact (h.2.2.2.2 c22)
set_option maxRecDepth 4000 in
set_option maxHeartbeats 400000 in
theorem b_Law_law_713 {d : Nat} {σ : Mem} {Post : Option AV → Mem → Prop} {x3 sx0 sx1 : Int32} (h : ((sx1 = sx0 → WS d M_Law_law 823 [vR 86 0, vR 0 0, vR 51 0, vI x3] [] σ Post) ∧ (¬ (sx1 = sx0) → Post (some (vI (0 : Int32))) σ))) : WS d M_Law_law 713 [vR 86 0, vR 0 0, vR 51 0, vI x3] [vI sx0, vI sx1] σ Post := by
  refine WS.br (P := sx1 = sx0) (a := 823) (b := 716) (S' := []) rfl (fun c23 => ?_) (fun c23 => ?_)
  · exact (h.1 c23)
  · refine WS.run (C := []) (pc' := 717) (L' := [vR 86 0, vR 0 0, vR 51 0, vI x3]) (S' := [vI (0 : Int32)]) (σ' := σ) 1 rfl trivial ?_
    exact WS.ret rfl rfl (by decide) rfl (h.2 c23)
set_option maxRecDepth 4000 in
set_option maxHeartbeats 400000 in
theorem b_Law_law_718 {d : Nat} {σ : Mem} {Post : Option AV → Mem → Prop} {x3 : Int32} (h : vp_in (x3 + (1 : Int32)) (gI σ 87 0 0).toNatClampNeg ∧ vp_in (x3 + (2 : Int32)) (gI σ 87 0 0).toNatClampNeg ∧ vp_in (x3 + (3 : Int32)) (gI σ 87 0 0).toNatClampNeg ∧ (((gI σ 86 0 (x3 + (3 : Int32)).toNatClampNeg) = 0 → MM d M_TM_apart [vR 0 0, vI (gI σ 86 0 (x3 + (1 : Int32)).toNatClampNeg), vI (gI σ 86 0 (x3 + (2 : Int32)).toNatClampNeg), vI (0 : Int32)] σ (fun r τ => WS (d + 1) M_Law_law 745 [vR 86 0, vR 0 0, vR 51 0, vI x3] (r.toList ++ []) τ Post)) ∧ (¬ ((gI σ 86 0 (x3 + (3 : Int32)).toNatClampNeg) = 0) → MM d M_TM_apart [vR 0 0, vI (gI σ 86 0 (x3 + (1 : Int32)).toNatClampNeg), vI (gI σ 86 0 (x3 + (2 : Int32)).toNatClampNeg), vI (1 : Int32)] σ (fun r τ => WS (d + 1) M_Law_law 745 [vR 86 0, vR 0 0, vR 51 0, vI x3] (r.toList ++ []) τ Post)))) : WS (d + 1) M_Law_law 718 [vR 86 0, vR 0 0, vR 51 0, vI x3] [] σ Post := by
  refine WS.run (C := [vp_in (x3 + (1 : Int32)) (gI σ 87 0 0).toNatClampNeg, vp_in (x3 + (2 : Int32)) (gI σ 87 0 0).toNatClampNeg, vp_in (x3 + (3 : Int32)) (gI σ 87 0 0).toNatClampNeg]) (pc' := 734) (L' := [vR 86 0, vR 0 0, vR 51 0, vI x3]) (S' := [vI (gI σ 86 0 (x3 + (3 : Int32)).toNatClampNeg), vI (gI σ 86 0 (x3 + (2 : Int32)).toNatClampNeg), vI (gI σ 86 0 (x3 + (1 : Int32)).toNatClampNeg), vR 0 0]) (σ' := σ) 16 rfl ⟨h.1, h.2.1, h.2.2.1, trivial⟩ ?_
  refine WS.br (P := (gI σ 86 0 (x3 + (3 : Int32)).toNatClampNeg) = 0) (a := 741) (b := 737) (S' := [vI (gI σ 86 0 (x3 + (2 : Int32)).toNatClampNeg), vI (gI σ 86 0 (x3 + (1 : Int32)).toNatClampNeg), vR 0 0]) rfl (fun c24 => ?_) (fun c24 => ?_)
  · refine WS.run (C := []) (pc' := 742) (L' := [vR 86 0, vR 0 0, vR 51 0, vI x3]) (S' := [vI (0 : Int32), vI (gI σ 86 0 (x3 + (2 : Int32)).toNatClampNeg), vI (gI σ 86 0 (x3 + (1 : Int32)).toNatClampNeg), vR 0 0]) (σ' := σ) 1 rfl trivial ?_
    refine WS.callV M_TM_apart (k := 0) (i := 0) (as := [vI (gI σ 86 0 (x3 + (1 : Int32)).toNatClampNeg), vI (gI σ 86 0 (x3 + (2 : Int32)).toNatClampNeg), vI (0 : Int32)]) (rest := []) rfl lk_12_93 rfl rfl rfl (Nat.le_of_ble_eq_true rfl) ?_
    exact (h.2.2.2.1 c24)
  · refine WS.run (C := []) (pc' := 742) (L' := [vR 86 0, vR 0 0, vR 51 0, vI x3]) (S' := [vI (1 : Int32), vI (gI σ 86 0 (x3 + (2 : Int32)).toNatClampNeg), vI (gI σ 86 0 (x3 + (1 : Int32)).toNatClampNeg), vR 0 0]) (σ' := σ) 2 rfl trivial ?_
    refine WS.callV M_TM_apart (k := 0) (i := 0) (as := [vI (gI σ 86 0 (x3 + (1 : Int32)).toNatClampNeg), vI (gI σ 86 0 (x3 + (2 : Int32)).toNatClampNeg), vI (1 : Int32)]) (rest := []) rfl lk_12_93 rfl rfl rfl (Nat.le_of_ble_eq_true rfl) ?_
    exact (h.2.2.2.2 c24)
set_option maxRecDepth 4000 in
set_option maxHeartbeats 400000 in
theorem b_Law_law_745 {d : Nat} {σ : Mem} {Post : Option AV → Mem → Prop} {x3 sx0 : Int32} (h : vp_in (x3 + (1 : Int32)) (gI σ 87 0 0).toNatClampNeg ∧ vp_in (x3 + (2 : Int32)) (gI σ 87 0 0).toNatClampNeg ∧ vp_in (x3 + (3 : Int32)) (gI σ 87 0 0).toNatClampNeg ∧ (((gI σ 86 0 (x3 + (3 : Int32)).toNatClampNeg) = 0 → MM d M_MD_apart_ [vR 51 0, vI (gI σ 86 0 (x3 + (1 : Int32)).toNatClampNeg), vI (gI σ 86 0 (x3 + (2 : Int32)).toNatClampNeg), vI (0 : Int32)] σ (fun r τ => WS (d + 1) M_Law_law 772 [vR 86 0, vR 0 0, vR 51 0, vI x3] (r.toList ++ [vI sx0]) τ Post)) ∧ (¬ ((gI σ 86 0 (x3 + (3 : Int32)).toNatClampNeg) = 0) → MM d M_MD_apart_ [vR 51 0, vI (gI σ 86 0 (x3 + (1 : Int32)).toNatClampNeg), vI (gI σ 86 0 (x3 + (2 : Int32)).toNatClampNeg), vI (1 : Int32)] σ (fun r τ => WS (d + 1) M_Law_law 772 [vR 86 0, vR 0 0, vR 51 0, vI x3] (r.toList ++ [vI sx0]) τ Post)))) : WS (d + 1) M_Law_law 745 [vR 86 0, vR 0 0, vR 51 0, vI x3] [vI sx0] σ Post := by
  refine WS.run (C := [vp_in (x3 + (1 : Int32)) (gI σ 87 0 0).toNatClampNeg, vp_in (x3 + (2 : Int32)) (gI σ 87 0 0).toNatClampNeg, vp_in (x3 + (3 : Int32)) (gI σ 87 0 0).toNatClampNeg]) (pc' := 761) (L' := [vR 86 0, vR 0 0, vR 51 0, vI x3]) (S' := [vI (gI σ 86 0 (x3 + (3 : Int32)).toNatClampNeg), vI (gI σ 86 0 (x3 + (2 : Int32)).toNatClampNeg), vI (gI σ 86 0 (x3 + (1 : Int32)).toNatClampNeg), vR 51 0, vI sx0]) (σ' := σ) 16 rfl ⟨h.1, h.2.1, h.2.2.1, trivial⟩ ?_
  refine WS.br (P := (gI σ 86 0 (x3 + (3 : Int32)).toNatClampNeg) = 0) (a := 768) (b := 764) (S' := [vI (gI σ 86 0 (x3 + (2 : Int32)).toNatClampNeg), vI (gI σ 86 0 (x3 + (1 : Int32)).toNatClampNeg), vR 51 0, vI sx0]) rfl (fun c25 => ?_) (fun c25 => ?_)
  · refine WS.run (C := []) (pc' := 769) (L' := [vR 86 0, vR 0 0, vR 51 0, vI x3]) (S' := [vI (0 : Int32), vI (gI σ 86 0 (x3 + (2 : Int32)).toNatClampNeg), vI (gI σ 86 0 (x3 + (1 : Int32)).toNatClampNeg), vR 51 0, vI sx0]) (σ' := σ) 1 rfl trivial ?_
    refine WS.callV M_MD_apart_ (k := 51) (i := 0) (as := [vI (gI σ 86 0 (x3 + (1 : Int32)).toNatClampNeg), vI (gI σ 86 0 (x3 + (2 : Int32)).toNatClampNeg), vI (0 : Int32)]) (rest := [vI sx0]) rfl lk_12_96 rfl rfl rfl (Nat.le_of_ble_eq_true rfl) ?_
    exact (h.2.2.2.1 c25)
  · refine WS.run (C := []) (pc' := 769) (L' := [vR 86 0, vR 0 0, vR 51 0, vI x3]) (S' := [vI (1 : Int32), vI (gI σ 86 0 (x3 + (2 : Int32)).toNatClampNeg), vI (gI σ 86 0 (x3 + (1 : Int32)).toNatClampNeg), vR 51 0, vI sx0]) (σ' := σ) 2 rfl trivial ?_
    refine WS.callV M_MD_apart_ (k := 51) (i := 0) (as := [vI (gI σ 86 0 (x3 + (1 : Int32)).toNatClampNeg), vI (gI σ 86 0 (x3 + (2 : Int32)).toNatClampNeg), vI (1 : Int32)]) (rest := [vI sx0]) rfl lk_12_96 rfl rfl rfl (Nat.le_of_ble_eq_true rfl) ?_
    exact (h.2.2.2.2 c25)
set_option maxRecDepth 4000 in
set_option maxHeartbeats 400000 in
theorem b_Law_law_772 {d : Nat} {σ : Mem} {Post : Option AV → Mem → Prop} {x3 sx0 sx1 : Int32} (h : ((sx1 = sx0 → WS d M_Law_law 823 [vR 86 0, vR 0 0, vR 51 0, vI x3] [] σ Post) ∧ (¬ (sx1 = sx0) → Post (some (vI (0 : Int32))) σ))) : WS d M_Law_law 772 [vR 86 0, vR 0 0, vR 51 0, vI x3] [vI sx0, vI sx1] σ Post := by
  refine WS.br (P := sx1 = sx0) (a := 823) (b := 775) (S' := []) rfl (fun c26 => ?_) (fun c26 => ?_)
  · exact (h.1 c26)
  · refine WS.run (C := []) (pc' := 776) (L' := [vR 86 0, vR 0 0, vR 51 0, vI x3]) (S' := [vI (0 : Int32)]) (σ' := σ) 1 rfl trivial ?_
    exact WS.ret rfl rfl (by decide) rfl (h.2 c26)
set_option maxRecDepth 4000 in
set_option maxHeartbeats 400000 in
theorem b_Law_law_777 {d : Nat} {σ : Mem} {Post : Option AV → Mem → Prop} {x3 : Int32} (h : vp_in (x3 + (1 : Int32)) (gI σ 87 0 0).toNatClampNeg ∧ MM d M_TM_lay [vR 0 0, vI (gI σ 86 0 (x3 + (1 : Int32)).toNatClampNeg)] σ (fun r τ => WS (d + 1) M_Law_law 786 [vR 86 0, vR 0 0, vR 51 0, vI x3] (r.toList ++ []) τ Post)) : WS (d + 1) M_Law_law 777 [vR 86 0, vR 0 0, vR 51 0, vI x3] [] σ Post := by
  refine WS.run (C := [vp_in (x3 + (1 : Int32)) (gI σ 87 0 0).toNatClampNeg]) (pc' := 783) (L' := [vR 86 0, vR 0 0, vR 51 0, vI x3]) (S' := [vI (gI σ 86 0 (x3 + (1 : Int32)).toNatClampNeg), vR 0 0]) (σ' := σ) 6 rfl ⟨h.1, trivial⟩ ?_
  refine WS.callV M_TM_lay (k := 0) (i := 0) (as := [vI (gI σ 86 0 (x3 + (1 : Int32)).toNatClampNeg)]) (rest := []) rfl lk_12_97 rfl rfl rfl (Nat.le_of_ble_eq_true rfl) ?_
  exact h.2
set_option maxRecDepth 4000 in
set_option maxHeartbeats 400000 in
theorem b_Law_law_786 {d : Nat} {σ : Mem} {Post : Option AV → Mem → Prop} {x3 sx0 : Int32} (h : vp_in (x3 + (1 : Int32)) (gI σ 87 0 0).toNatClampNeg ∧ MM d M_MD_lay [vR 51 0, vI (gI σ 86 0 (x3 + (1 : Int32)).toNatClampNeg)] σ (fun r τ => WS (d + 1) M_Law_law 795 [vR 86 0, vR 0 0, vR 51 0, vI x3] (r.toList ++ [vI sx0]) τ Post)) : WS (d + 1) M_Law_law 786 [vR 86 0, vR 0 0, vR 51 0, vI x3] [vI sx0] σ Post := by
  refine WS.run (C := [vp_in (x3 + (1 : Int32)) (gI σ 87 0 0).toNatClampNeg]) (pc' := 792) (L' := [vR 86 0, vR 0 0, vR 51 0, vI x3]) (S' := [vI (gI σ 86 0 (x3 + (1 : Int32)).toNatClampNeg), vR 51 0, vI sx0]) (σ' := σ) 6 rfl ⟨h.1, trivial⟩ ?_
  refine WS.callV M_MD_lay (k := 51) (i := 0) (as := [vI (gI σ 86 0 (x3 + (1 : Int32)).toNatClampNeg)]) (rest := [vI sx0]) rfl lk_12_100 rfl rfl rfl (Nat.le_of_ble_eq_true rfl) ?_
  exact h.2
set_option maxRecDepth 4000 in
set_option maxHeartbeats 400000 in
theorem b_Law_law_795 {d : Nat} {σ : Mem} {Post : Option AV → Mem → Prop} {x3 sx0 sx1 : Int32} (h : ((sx1 = sx0 → WS d M_Law_law 823 [vR 86 0, vR 0 0, vR 51 0, vI x3] [] σ Post) ∧ (¬ (sx1 = sx0) → Post (some (vI (0 : Int32))) σ))) : WS d M_Law_law 795 [vR 86 0, vR 0 0, vR 51 0, vI x3] [vI sx0, vI sx1] σ Post := by
  refine WS.br (P := sx1 = sx0) (a := 823) (b := 798) (S' := []) rfl (fun c27 => ?_) (fun c27 => ?_)
  · exact (h.1 c27)
  · refine WS.run (C := []) (pc' := 799) (L' := [vR 86 0, vR 0 0, vR 51 0, vI x3]) (S' := [vI (0 : Int32)]) (σ' := σ) 1 rfl trivial ?_
    exact WS.ret rfl rfl (by decide) rfl (h.2 c27)
set_option maxRecDepth 4000 in
set_option maxHeartbeats 400000 in
theorem b_Law_law_800 {d : Nat} {σ : Mem} {Post : Option AV → Mem → Prop} {x3 : Int32} (h : vp_in (x3 + (1 : Int32)) (gI σ 87 0 0).toNatClampNeg ∧ MM d M_TM_texture [vR 0 0, vI (gI σ 86 0 (x3 + (1 : Int32)).toNatClampNeg)] σ (fun r τ => WS (d + 1) M_Law_law 809 [vR 86 0, vR 0 0, vR 51 0, vI x3] (r.toList ++ []) τ Post)) : WS (d + 1) M_Law_law 800 [vR 86 0, vR 0 0, vR 51 0, vI x3] [] σ Post := by
  refine WS.run (C := [vp_in (x3 + (1 : Int32)) (gI σ 87 0 0).toNatClampNeg]) (pc' := 806) (L' := [vR 86 0, vR 0 0, vR 51 0, vI x3]) (S' := [vI (gI σ 86 0 (x3 + (1 : Int32)).toNatClampNeg), vR 0 0]) (σ' := σ) 6 rfl ⟨h.1, trivial⟩ ?_
  refine WS.callV M_TM_texture (k := 0) (i := 0) (as := [vI (gI σ 86 0 (x3 + (1 : Int32)).toNatClampNeg)]) (rest := []) rfl lk_12_101 rfl rfl rfl (Nat.le_of_ble_eq_true rfl) ?_
  exact h.2
set_option maxRecDepth 4000 in
set_option maxHeartbeats 400000 in
theorem b_Law_law_809 {d : Nat} {σ : Mem} {Post : Option AV → Mem → Prop} {x3 sx0 : Int32} (h : vp_in (x3 + (1 : Int32)) (gI σ 87 0 0).toNatClampNeg ∧ MM d M_MD_texture [vR 51 0, vI (gI σ 86 0 (x3 + (1 : Int32)).toNatClampNeg)] σ (fun r τ => WS (d + 1) M_Law_law 818 [vR 86 0, vR 0 0, vR 51 0, vI x3] (r.toList ++ [vI sx0]) τ Post)) : WS (d + 1) M_Law_law 809 [vR 86 0, vR 0 0, vR 51 0, vI x3] [vI sx0] σ Post := by
  refine WS.run (C := [vp_in (x3 + (1 : Int32)) (gI σ 87 0 0).toNatClampNeg]) (pc' := 815) (L' := [vR 86 0, vR 0 0, vR 51 0, vI x3]) (S' := [vI (gI σ 86 0 (x3 + (1 : Int32)).toNatClampNeg), vR 51 0, vI sx0]) (σ' := σ) 6 rfl ⟨h.1, trivial⟩ ?_
  refine WS.callV M_MD_texture (k := 51) (i := 0) (as := [vI (gI σ 86 0 (x3 + (1 : Int32)).toNatClampNeg)]) (rest := [vI sx0]) rfl lk_12_104 rfl rfl rfl (Nat.le_of_ble_eq_true rfl) ?_
  exact h.2
set_option maxRecDepth 4000 in
set_option maxHeartbeats 400000 in
theorem b_Law_law_818 {d : Nat} {σ : Mem} {Post : Option AV → Mem → Prop} {x3 sx0 sx1 : Int32} (h : ((sx1 = sx0 → WS d M_Law_law 823 [vR 86 0, vR 0 0, vR 51 0, vI x3] [] σ Post) ∧ (¬ (sx1 = sx0) → Post (some (vI (0 : Int32))) σ))) : WS d M_Law_law 818 [vR 86 0, vR 0 0, vR 51 0, vI x3] [vI sx0, vI sx1] σ Post := by
  refine WS.br (P := sx1 = sx0) (a := 823) (b := 821) (S' := []) rfl (fun c28 => ?_) (fun c28 => ?_)
  · exact (h.1 c28)
  · refine WS.run (C := []) (pc' := 822) (L' := [vR 86 0, vR 0 0, vR 51 0, vI x3]) (S' := [vI (0 : Int32)]) (σ' := σ) 1 rfl trivial ?_
    exact WS.ret rfl rfl (by decide) rfl (h.2 c28)
set_option maxRecDepth 4000 in
set_option maxHeartbeats 400000 in
theorem b_Law_law_823 {d : Nat} {σ : Mem} {Post : Option AV → Mem → Prop} {x3 : Int32} (h : WS d M_Law_law 18 [vR 86 0, vR 0 0, vR 51 0, vI (x3 + (5 : Int32))] [] σ Post) : WS d M_Law_law 823 [vR 86 0, vR 0 0, vR 51 0, vI x3] [] σ Post := by
  refine WS.run (C := []) (pc' := 18) (L' := [vR 86 0, vR 0 0, vR 51 0, vI (x3 + (5 : Int32))]) (S' := []) (σ' := σ) 2 rfl trivial ?_
  exact h
