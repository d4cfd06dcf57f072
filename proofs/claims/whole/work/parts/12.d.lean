def dl_L_law_c0 : List (Nat × Instr × Nat) := [(0, .new 7, 3), (3, .dup, 1), (4, .invokespecial 9, 3), (7, .astore_n 1, 1), (8, .new 10, 3), (11, .dup, 1), (12, .invokespecial 12, 3), (15, .astore_n 2, 1), (16, .iconst 0, 1), (17, .istore_n 3, 1), (18, .iload_n 3, 1), (19, .aload_n 0, 1), (20, .arraylength, 1), (21, .bipush 7, 2), (23, .isub, 1), (24, .if_icmp .gt 1594, 3), (27, .aload_n 0, 1), (28, .iload_n 3, 1), (29, .iaload, 1), (30, .bipush 63, 2), (32, .iand, 1), (33, .tableswitch 1579 0 39 #[175, 228, 261, 284, 297, 320, 353, 406, 449, 472, 525, 558, 611, 624, 637, 670, 713, 756, 799, 832, 875, 918, 961, 984, 1038, 1071, 1094, 1127, 1202, 1235, 1278, 1301, 1344, 1388, 1451, 1474, 1497, 1530, 1543, 1556], 175), (208, .aload_n 1, 1), (209, .aload_n 0, 1), (210, .iload_n 3, 1), (211, .iconst 1, 1), (212, .iadd, 1), (213, .iaload, 1), (214, .aload_n 0, 1), (215, .iload_n 3, 1), (216, .iconst 2, 1), (217, .iadd, 1), (218, .iaload, 1), (219, .aload_n 0, 1), (220, .iload_n 3, 1), (221, .iconst 3, 1), (222, .iadd, 1), (223, .iaload, 1), (224, .aload_n 0, 1), (225, .iload_n 3, 1), (226, .iconst 4, 1), (227, .iadd, 1), (228, .iaload, 1), (229, .invokevirtual 13, 3), (232, .aload_n 2, 1), (233, .aload_n 0, 1), (234, .iload_n 3, 1), (235, .iconst 1, 1), (236, .iadd, 1), (237, .iaload, 1), (238, .aload_n 0, 1), (239, .iload_n 3, 1), (240, .iconst 2, 1), (241, .iadd, 1), (242, .iaload, 1), (243, .aload_n 0, 1), (244, .iload_n 3, 1), (245, .iconst 3, 1), (246, .iadd, 1), (247, .iaload, 1)]
theorem dd_L_law_c0 : Dall 208 dl_L_law_c0 = true := by decide +kernel
def dl_L_law_c1 : List (Nat × Instr × Nat) := [(248, .aload_n 0, 1), (249, .iload_n 3, 1), (250, .iconst 4, 1), (251, .iadd, 1), (252, .iaload, 1), (253, .invokevirtual 17, 3), (256, .if_icmp .eq 1356, 3), (259, .iconst 0, 1), (260, .ireturn, 1), (261, .aload_n 1, 1), (262, .aload_n 0, 1), (263, .iload_n 3, 1), (264, .iconst 1, 1), (265, .iadd, 1), (266, .iaload, 1), (267, .aload_n 0, 1), (268, .iload_n 3, 1), (269, .iconst 2, 1), (270, .iadd, 1), (271, .iaload, 1), (272, .invokevirtual 18, 3), (275, .aload_n 2, 1), (276, .aload_n 0, 1), (277, .iload_n 3, 1), (278, .iconst 1, 1), (279, .iadd, 1), (280, .iaload, 1), (281, .aload_n 0, 1), (282, .iload_n 3, 1), (283, .iconst 2, 1), (284, .iadd, 1), (285, .iaload, 1), (286, .invokevirtual 22, 3), (289, .if_icmp .eq 1323, 3), (292, .iconst 0, 1), (293, .ireturn, 1), (294, .aload_n 1, 1), (295, .aload_n 0, 1), (296, .iload_n 3, 1), (297, .iconst 1, 1), (298, .iadd, 1), (299, .iaload, 1), (300, .invokevirtual 23, 3), (303, .aload_n 2, 1), (304, .aload_n 0, 1), (305, .iload_n 3, 1), (306, .iconst 1, 1), (307, .iadd, 1), (308, .iaload, 1), (309, .invokevirtual 27, 3), (312, .if_icmp .eq 1300, 3), (315, .iconst 0, 1), (316, .ireturn, 1), (317, .aload_n 1, 1), (318, .invokevirtual 28, 3), (321, .aload_n 2, 1), (322, .invokevirtual 32, 3), (325, .if_icmp .eq 1287, 3), (328, .iconst 0, 1), (329, .ireturn, 1)]
theorem dd_L_law_c1 : Dall 208 dl_L_law_c1 = true := by decide +kernel
def dl_L_law_c2 : List (Nat × Instr × Nat) := [(330, .aload_n 1, 1), (331, .aload_n 0, 1), (332, .iload_n 3, 1), (333, .iconst 1, 1), (334, .iadd, 1), (335, .iaload, 1), (336, .invokevirtual 33, 3), (339, .aload_n 2, 1), (340, .aload_n 0, 1), (341, .iload_n 3, 1), (342, .iconst 1, 1), (343, .iadd, 1), (344, .iaload, 1), (345, .invokevirtual 36, 3), (348, .if_icmp .eq 1264, 3), (351, .iconst 0, 1), (352, .ireturn, 1), (353, .aload_n 1, 1), (354, .aload_n 0, 1), (355, .iload_n 3, 1), (356, .iconst 1, 1), (357, .iadd, 1), (358, .iaload, 1), (359, .aload_n 0, 1), (360, .iload_n 3, 1), (361, .iconst 2, 1), (362, .iadd, 1), (363, .iaload, 1), (364, .invokevirtual 37, 3), (367, .aload_n 2, 1), (368, .aload_n 0, 1), (369, .iload_n 3, 1), (370, .iconst 1, 1), (371, .iadd, 1), (372, .iaload, 1), (373, .aload_n 0, 1), (374, .iload_n 3, 1), (375, .iconst 2, 1), (376, .iadd, 1), (377, .iaload, 1), (378, .invokevirtual 40, 3), (381, .if_icmp .eq 1231, 3), (384, .iconst 0, 1), (385, .ireturn, 1), (386, .aload_n 1, 1), (387, .aload_n 0, 1), (388, .iload_n 3, 1), (389, .iconst 1, 1), (390, .iadd, 1), (391, .iaload, 1), (392, .aload_n 0, 1), (393, .iload_n 3, 1), (394, .iconst 2, 1), (395, .iadd, 1), (396, .iaload, 1), (397, .aload_n 0, 1), (398, .iload_n 3, 1), (399, .iconst 3, 1), (400, .iadd, 1), (401, .iaload, 1)]
theorem dd_L_law_c2 : Dall 208 dl_L_law_c2 = true := by decide +kernel
def dl_L_law_c3 : List (Nat × Instr × Nat) := [(402, .aload_n 0, 1), (403, .iload_n 3, 1), (404, .iconst 4, 1), (405, .iadd, 1), (406, .iaload, 1), (407, .invokevirtual 41, 3), (410, .aload_n 2, 1), (411, .aload_n 0, 1), (412, .iload_n 3, 1), (413, .iconst 1, 1), (414, .iadd, 1), (415, .iaload, 1), (416, .aload_n 0, 1), (417, .iload_n 3, 1), (418, .iconst 2, 1), (419, .iadd, 1), (420, .iaload, 1), (421, .aload_n 0, 1), (422, .iload_n 3, 1), (423, .iconst 3, 1), (424, .iadd, 1), (425, .iaload, 1), (426, .aload_n 0, 1), (427, .iload_n 3, 1), (428, .iconst 4, 1), (429, .iadd, 1), (430, .iaload, 1), (431, .invokevirtual 44, 3), (434, .if_icmp .eq 1178, 3), (437, .iconst 0, 1), (438, .ireturn, 1), (439, .aload_n 1, 1), (440, .aload_n 0, 1), (441, .iload_n 3, 1), (442, .iconst 1, 1), (443, .iadd, 1), (444, .iaload, 1), (445, .aload_n 0, 1), (446, .iload_n 3, 1), (447, .iconst 2, 1), (448, .iadd, 1), (449, .iaload, 1), (450, .aload_n 0, 1), (451, .iload_n 3, 1), (452, .iconst 3, 1), (453, .iadd, 1), (454, .iaload, 1), (455, .invokevirtual 45, 3), (458, .aload_n 2, 1), (459, .aload_n 0, 1), (460, .iload_n 3, 1), (461, .iconst 1, 1), (462, .iadd, 1), (463, .iaload, 1), (464, .aload_n 0, 1), (465, .iload_n 3, 1), (466, .iconst 2, 1), (467, .iadd, 1), (468, .iaload, 1), (469, .aload_n 0, 1)]
theorem dd_L_law_c3 : Dall 208 dl_L_law_c3 = true := by decide +kernel
def dl_L_law_c4 : List (Nat × Instr × Nat) := [(470, .iload_n 3, 1), (471, .iconst 3, 1), (472, .iadd, 1), (473, .iaload, 1), (474, .invokevirtual 49, 3), (477, .if_icmp .eq 1135, 3), (480, .iconst 0, 1), (481, .ireturn, 1), (482, .aload_n 1, 1), (483, .aload_n 0, 1), (484, .iload_n 3, 1), (485, .iconst 1, 1), (486, .iadd, 1), (487, .iaload, 1), (488, .invokevirtual 50, 3), (491, .aload_n 2, 1), (492, .aload_n 0, 1), (493, .iload_n 3, 1), (494, .iconst 1, 1), (495, .iadd, 1), (496, .iaload, 1), (497, .invokevirtual 53, 3), (500, .if_icmp .eq 1112, 3), (503, .iconst 0, 1), (504, .ireturn, 1), (505, .aload_n 1, 1), (506, .aload_n 0, 1), (507, .iload_n 3, 1), (508, .iconst 1, 1), (509, .iadd, 1), (510, .iaload, 1), (511, .aload_n 0, 1), (512, .iload_n 3, 1), (513, .iconst 2, 1), (514, .iadd, 1), (515, .iaload, 1), (516, .aload_n 0, 1), (517, .iload_n 3, 1), (518, .iconst 3, 1), (519, .iadd, 1), (520, .iaload, 1), (521, .aload_n 0, 1), (522, .iload_n 3, 1), (523, .iconst 4, 1), (524, .iadd, 1), (525, .iaload, 1), (526, .invokevirtual 54, 3), (529, .aload_n 2, 1), (530, .aload_n 0, 1), (531, .iload_n 3, 1), (532, .iconst 1, 1), (533, .iadd, 1), (534, .iaload, 1), (535, .aload_n 0, 1), (536, .iload_n 3, 1), (537, .iconst 2, 1), (538, .iadd, 1), (539, .iaload, 1), (540, .aload_n 0, 1), (541, .iload_n 3, 1)]
theorem dd_L_law_c4 : Dall 208 dl_L_law_c4 = true := by decide +kernel
def dl_L_law_c5 : List (Nat × Instr × Nat) := [(542, .iconst 3, 1), (543, .iadd, 1), (544, .iaload, 1), (545, .aload_n 0, 1), (546, .iload_n 3, 1), (547, .iconst 4, 1), (548, .iadd, 1), (549, .iaload, 1), (550, .invokevirtual 57, 3), (553, .if_icmp .eq 1059, 3), (556, .iconst 0, 1), (557, .ireturn, 1), (558, .aload_n 1, 1), (559, .aload_n 0, 1), (560, .iload_n 3, 1), (561, .iconst 1, 1), (562, .iadd, 1), (563, .iaload, 1), (564, .aload_n 0, 1), (565, .iload_n 3, 1), (566, .iconst 2, 1), (567, .iadd, 1), (568, .iaload, 1), (569, .invokevirtual 58, 3), (572, .aload_n 2, 1), (573, .aload_n 0, 1), (574, .iload_n 3, 1), (575, .iconst 1, 1), (576, .iadd, 1), (577, .iaload, 1), (578, .aload_n 0, 1), (579, .iload_n 3, 1), (580, .iconst 2, 1), (581, .iadd, 1), (582, .iaload, 1), (583, .invokevirtual 61, 3), (586, .if_icmp .eq 1026, 3), (589, .iconst 0, 1), (590, .ireturn, 1), (591, .aload_n 1, 1), (592, .aload_n 0, 1), (593, .iload_n 3, 1), (594, .iconst 1, 1), (595, .iadd, 1), (596, .iaload, 1), (597, .aload_n 0, 1), (598, .iload_n 3, 1), (599, .iconst 2, 1), (600, .iadd, 1), (601, .iaload, 1), (602, .aload_n 0, 1), (603, .iload_n 3, 1), (604, .iconst 3, 1), (605, .iadd, 1), (606, .iaload, 1), (607, .aload_n 0, 1), (608, .iload_n 3, 1), (609, .iconst 4, 1), (610, .iadd, 1), (611, .iaload, 1)]
theorem dd_L_law_c5 : Dall 208 dl_L_law_c5 = true := by decide +kernel
def dl_L_law_c6 : List (Nat × Instr × Nat) := [(612, .invokevirtual 62, 3), (615, .aload_n 2, 1), (616, .aload_n 0, 1), (617, .iload_n 3, 1), (618, .iconst 1, 1), (619, .iadd, 1), (620, .iaload, 1), (621, .aload_n 0, 1), (622, .iload_n 3, 1), (623, .iconst 2, 1), (624, .iadd, 1), (625, .iaload, 1), (626, .aload_n 0, 1), (627, .iload_n 3, 1), (628, .iconst 3, 1), (629, .iadd, 1), (630, .iaload, 1), (631, .aload_n 0, 1), (632, .iload_n 3, 1), (633, .iconst 4, 1), (634, .iadd, 1), (635, .iaload, 1), (636, .invokevirtual 65, 3), (639, .if_icmp .eq 973, 3), (642, .iconst 0, 1), (643, .ireturn, 1), (644, .aload_n 1, 1), (645, .invokevirtual 66, 3), (648, .aload_n 2, 1), (649, .invokevirtual 69, 3), (652, .if_icmp .eq 960, 3), (655, .iconst 0, 1), (656, .ireturn, 1), (657, .aload_n 1, 1), (658, .invokevirtual 70, 3), (661, .aload_n 2, 1), (662, .invokevirtual 73, 3), (665, .if_icmp .eq 947, 3), (668, .iconst 0, 1), (669, .ireturn, 1), (670, .aload_n 1, 1), (671, .aload_n 0, 1), (672, .iload_n 3, 1), (673, .iconst 1, 1), (674, .iadd, 1), (675, .iaload, 1), (676, .aload_n 0, 1), (677, .iload_n 3, 1), (678, .iconst 2, 1), (679, .iadd, 1), (680, .iaload, 1), (681, .invokevirtual 74, 3), (684, .aload_n 2, 1), (685, .aload_n 0, 1), (686, .iload_n 3, 1), (687, .iconst 1, 1), (688, .iadd, 1), (689, .iaload, 1), (690, .aload_n 0, 1), (691, .iload_n 3, 1)]
theorem dd_L_law_c6 : Dall 208 dl_L_law_c6 = true := by decide +kernel
def dl_L_law_c7 : List (Nat × Instr × Nat) := [(692, .iconst 2, 1), (693, .iadd, 1), (694, .iaload, 1), (695, .invokevirtual 77, 3), (698, .if_icmp .eq 914, 3), (701, .iconst 0, 1), (702, .ireturn, 1), (703, .aload_n 1, 1), (704, .aload_n 0, 1), (705, .iload_n 3, 1), (706, .iconst 1, 1), (707, .iadd, 1), (708, .iaload, 1), (709, .aload_n 0, 1), (710, .iload_n 3, 1), (711, .iconst 2, 1), (712, .iadd, 1), (713, .iaload, 1), (714, .aload_n 0, 1), (715, .iload_n 3, 1), (716, .iconst 3, 1), (717, .iadd, 1), (718, .iaload, 1), (719, .invokevirtual 78, 3), (722, .aload_n 2, 1), (723, .aload_n 0, 1), (724, .iload_n 3, 1), (725, .iconst 1, 1), (726, .iadd, 1), (727, .iaload, 1), (728, .aload_n 0, 1), (729, .iload_n 3, 1), (730, .iconst 2, 1), (731, .iadd, 1), (732, .iaload, 1), (733, .aload_n 0, 1), (734, .iload_n 3, 1), (735, .iconst 3, 1), (736, .iadd, 1), (737, .iaload, 1), (738, .invokevirtual 81, 3), (741, .if_icmp .eq 871, 3), (744, .iconst 0, 1), (745, .ireturn, 1), (746, .aload_n 1, 1), (747, .aload_n 0, 1), (748, .iload_n 3, 1), (749, .iconst 1, 1), (750, .iadd, 1), (751, .iaload, 1), (752, .aload_n 0, 1), (753, .iload_n 3, 1), (754, .iconst 2, 1), (755, .iadd, 1), (756, .iaload, 1), (757, .aload_n 0, 1), (758, .iload_n 3, 1), (759, .iconst 3, 1), (760, .iadd, 1), (761, .iaload, 1)]
theorem dd_L_law_c7 : Dall 208 dl_L_law_c7 = true := by decide +kernel
def dl_L_law_c8 : List (Nat × Instr × Nat) := [(762, .invokevirtual 82, 3), (765, .aload_n 2, 1), (766, .aload_n 0, 1), (767, .iload_n 3, 1), (768, .iconst 1, 1), (769, .iadd, 1), (770, .iaload, 1), (771, .aload_n 0, 1), (772, .iload_n 3, 1), (773, .iconst 2, 1), (774, .iadd, 1), (775, .iaload, 1), (776, .aload_n 0, 1), (777, .iload_n 3, 1), (778, .iconst 3, 1), (779, .iadd, 1), (780, .iaload, 1), (781, .invokevirtual 85, 3), (784, .if_icmp .eq 828, 3), (787, .iconst 0, 1), (788, .ireturn, 1), (789, .aload_n 1, 1), (790, .aload_n 0, 1), (791, .iload_n 3, 1), (792, .iconst 1, 1), (793, .iadd, 1), (794, .iaload, 1), (795, .aload_n 0, 1), (796, .iload_n 3, 1), (797, .iconst 2, 1), (798, .iadd, 1), (799, .iaload, 1), (800, .aload_n 0, 1), (801, .iload_n 3, 1), (802, .iconst 3, 1), (803, .iadd, 1), (804, .iaload, 1), (805, .invokevirtual 86, 3), (808, .aload_n 2, 1), (809, .aload_n 0, 1), (810, .iload_n 3, 1), (811, .iconst 1, 1), (812, .iadd, 1), (813, .iaload, 1), (814, .aload_n 0, 1), (815, .iload_n 3, 1), (816, .iconst 2, 1), (817, .iadd, 1), (818, .iaload, 1), (819, .aload_n 0, 1), (820, .iload_n 3, 1), (821, .iconst 3, 1), (822, .iadd, 1), (823, .iaload, 1), (824, .invokevirtual 89, 3), (827, .if_icmp .eq 785, 3), (830, .iconst 0, 1), (831, .ireturn, 1), (832, .aload_n 1, 1), (833, .aload_n 0, 1)]
theorem dd_L_law_c8 : Dall 208 dl_L_law_c8 = true := by decide +kernel
def dl_L_law_c9 : List (Nat × Instr × Nat) := [(834, .iload_n 3, 1), (835, .iconst 1, 1), (836, .iadd, 1), (837, .iaload, 1), (838, .aload_n 0, 1), (839, .iload_n 3, 1), (840, .iconst 2, 1), (841, .iadd, 1), (842, .iaload, 1), (843, .invokevirtual 90, 3), (846, .aload_n 2, 1), (847, .aload_n 0, 1), (848, .iload_n 3, 1), (849, .iconst 1, 1), (850, .iadd, 1), (851, .iaload, 1), (852, .aload_n 0, 1), (853, .iload_n 3, 1), (854, .iconst 2, 1), (855, .iadd, 1), (856, .iaload, 1), (857, .invokevirtual 93, 3), (860, .if_icmp .eq 752, 3), (863, .iconst 0, 1), (864, .ireturn, 1), (865, .aload_n 1, 1), (866, .aload_n 0, 1), (867, .iload_n 3, 1), (868, .iconst 1, 1), (869, .iadd, 1), (870, .iaload, 1), (871, .aload_n 0, 1), (872, .iload_n 3, 1), (873, .iconst 2, 1), (874, .iadd, 1), (875, .iaload, 1), (876, .aload_n 0, 1), (877, .iload_n 3, 1), (878, .iconst 3, 1), (879, .iadd, 1), (880, .iaload, 1), (881, .invokevirtual 94, 3), (884, .aload_n 2, 1), (885, .aload_n 0, 1), (886, .iload_n 3, 1), (887, .iconst 1, 1), (888, .iadd, 1), (889, .iaload, 1), (890, .aload_n 0, 1), (891, .iload_n 3, 1), (892, .iconst 2, 1), (893, .iadd, 1), (894, .iaload, 1), (895, .aload_n 0, 1), (896, .iload_n 3, 1), (897, .iconst 3, 1), (898, .iadd, 1), (899, .iaload, 1), (900, .invokevirtual 97, 3), (903, .if_icmp .eq 709, 3)]
theorem dd_L_law_c9 : Dall 208 dl_L_law_c9 = true := by decide +kernel
def dl_L_law_c10 : List (Nat × Instr × Nat) := [(906, .iconst 0, 1), (907, .ireturn, 1), (908, .aload_n 1, 1), (909, .aload_n 0, 1), (910, .iload_n 3, 1), (911, .iconst 1, 1), (912, .iadd, 1), (913, .iaload, 1), (914, .aload_n 0, 1), (915, .iload_n 3, 1), (916, .iconst 2, 1), (917, .iadd, 1), (918, .iaload, 1), (919, .aload_n 0, 1), (920, .iload_n 3, 1), (921, .iconst 3, 1), (922, .iadd, 1), (923, .iaload, 1), (924, .invokevirtual 98, 3), (927, .aload_n 2, 1), (928, .aload_n 0, 1), (929, .iload_n 3, 1), (930, .iconst 1, 1), (931, .iadd, 1), (932, .iaload, 1), (933, .aload_n 0, 1), (934, .iload_n 3, 1), (935, .iconst 2, 1), (936, .iadd, 1), (937, .iaload, 1), (938, .aload_n 0, 1), (939, .iload_n 3, 1), (940, .iconst 3, 1), (941, .iadd, 1), (942, .iaload, 1), (943, .invokevirtual 101, 3), (946, .if_icmp .eq 666, 3), (949, .iconst 0, 1), (950, .ireturn, 1), (951, .aload_n 1, 1), (952, .aload_n 0, 1), (953, .iload_n 3, 1), (954, .iconst 1, 1), (955, .iadd, 1), (956, .iaload, 1), (957, .aload_n 0, 1), (958, .iload_n 3, 1), (959, .iconst 2, 1), (960, .iadd, 1), (961, .iaload, 1), (962, .aload_n 0, 1), (963, .iload_n 3, 1), (964, .iconst 3, 1), (965, .iadd, 1), (966, .iaload, 1), (967, .invokevirtual 102, 3), (970, .aload_n 2, 1), (971, .aload_n 0, 1), (972, .iload_n 3, 1), (973, .iconst 1, 1)]
theorem dd_L_law_c10 : Dall 208 dl_L_law_c10 = true := by decide +kernel
def dl_L_law_c11 : List (Nat × Instr × Nat) := [(974, .iadd, 1), (975, .iaload, 1), (976, .aload_n 0, 1), (977, .iload_n 3, 1), (978, .iconst 2, 1), (979, .iadd, 1), (980, .iaload, 1), (981, .aload_n 0, 1), (982, .iload_n 3, 1), (983, .iconst 3, 1), (984, .iadd, 1), (985, .iaload, 1), (986, .invokevirtual 105, 3), (989, .if_icmp .eq 623, 3), (992, .iconst 0, 1), (993, .ireturn, 1), (994, .aload_n 1, 1), (995, .aload_n 0, 1), (996, .iload_n 3, 1), (997, .iconst 1, 1), (998, .iadd, 1), (999, .iaload, 1), (1000, .invokevirtual 106, 3), (1003, .aload_n 2, 1), (1004, .aload_n 0, 1), (1005, .iload_n 3, 1), (1006, .iconst 1, 1), (1007, .iadd, 1), (1008, .iaload, 1), (1009, .invokevirtual 109, 3), (1012, .if_icmp .eq 600, 3), (1015, .iconst 0, 1), (1016, .ireturn, 1), (1017, .aload_n 1, 1), (1018, .aload_n 0, 1), (1019, .iload_n 3, 1), (1020, .iconst 1, 1), (1021, .iadd, 1), (1022, .iaload, 1), (1023, .aload_n 0, 1), (1024, .iload_n 3, 1), (1025, .iconst 2, 1), (1026, .iadd, 1), (1027, .iaload, 1), (1028, .aload_n 0, 1), (1029, .iload_n 3, 1), (1030, .iconst 3, 1), (1031, .iadd, 1), (1032, .iaload, 1), (1033, .aload_n 0, 1), (1034, .iload_n 3, 1), (1035, .iconst 4, 1), (1036, .iadd, 1), (1037, .iaload, 1), (1038, .invokevirtual 110, 3), (1041, .aload_n 2, 1), (1042, .aload_n 0, 1), (1043, .iload_n 3, 1), (1044, .iconst 1, 1), (1045, .iadd, 1)]
theorem dd_L_law_c11 : Dall 208 dl_L_law_c11 = true := by decide +kernel
def dl_L_law_c12 : List (Nat × Instr × Nat) := [(1046, .iaload, 1), (1047, .aload_n 0, 1), (1048, .iload_n 3, 1), (1049, .iconst 2, 1), (1050, .iadd, 1), (1051, .iaload, 1), (1052, .aload_n 0, 1), (1053, .iload_n 3, 1), (1054, .iconst 3, 1), (1055, .iadd, 1), (1056, .iaload, 1), (1057, .aload_n 0, 1), (1058, .iload_n 3, 1), (1059, .iconst 4, 1), (1060, .iadd, 1), (1061, .iaload, 1), (1062, .invokevirtual 114, 3), (1065, .lcmp, 1), (1066, .ifCond .eq 546, 3), (1069, .iconst 0, 1), (1070, .ireturn, 1), (1071, .aload_n 1, 1), (1072, .aload_n 0, 1), (1073, .iload_n 3, 1), (1074, .iconst 1, 1), (1075, .iadd, 1), (1076, .iaload, 1), (1077, .aload_n 0, 1), (1078, .iload_n 3, 1), (1079, .iconst 2, 1), (1080, .iadd, 1), (1081, .iaload, 1), (1082, .invokevirtual 115, 3), (1085, .aload_n 2, 1), (1086, .aload_n 0, 1), (1087, .iload_n 3, 1), (1088, .iconst 1, 1), (1089, .iadd, 1), (1090, .iaload, 1), (1091, .aload_n 0, 1), (1092, .iload_n 3, 1), (1093, .iconst 2, 1), (1094, .iadd, 1), (1095, .iaload, 1), (1096, .invokevirtual 118, 3), (1099, .if_icmp .eq 513, 3), (1102, .iconst 0, 1), (1103, .ireturn, 1), (1104, .aload_n 1, 1), (1105, .aload_n 0, 1), (1106, .iload_n 3, 1), (1107, .iconst 1, 1), (1108, .iadd, 1), (1109, .iaload, 1), (1110, .invokevirtual 119, 3), (1113, .aload_n 2, 1), (1114, .aload_n 0, 1), (1115, .iload_n 3, 1), (1116, .iconst 1, 1), (1117, .iadd, 1)]
theorem dd_L_law_c12 : Dall 208 dl_L_law_c12 = true := by decide +kernel
def dl_L_law_c13 : List (Nat × Instr × Nat) := [(1118, .iaload, 1), (1119, .invokevirtual 122, 3), (1122, .if_icmp .eq 490, 3), (1125, .iconst 0, 1), (1126, .ireturn, 1), (1127, .aload_n 1, 1), (1128, .aload_n 0, 1), (1129, .iload_n 3, 1), (1130, .iconst 1, 1), (1131, .iadd, 1), (1132, .iaload, 1), (1133, .aload_n 0, 1), (1134, .iload_n 3, 1), (1135, .iconst 2, 1), (1136, .iadd, 1), (1137, .iaload, 1), (1138, .invokevirtual 123, 3), (1141, .aload_n 2, 1), (1142, .aload_n 0, 1), (1143, .iload_n 3, 1), (1144, .iconst 1, 1), (1145, .iadd, 1), (1146, .iaload, 1), (1147, .aload_n 0, 1), (1148, .iload_n 3, 1), (1149, .iconst 2, 1), (1150, .iadd, 1), (1151, .iaload, 1), (1152, .invokevirtual 126, 3), (1155, .if_icmp .eq 457, 3), (1158, .iconst 0, 1), (1159, .ireturn, 1), (1160, .aload_n 1, 1), (1161, .aload_n 0, 1), (1162, .iload_n 3, 1), (1163, .iconst 1, 1), (1164, .iadd, 1), (1165, .iaload, 1), (1166, .aload_n 0, 1), (1167, .iload_n 3, 1), (1168, .iconst 2, 1), (1169, .iadd, 1), (1170, .iaload, 1), (1171, .aload_n 0, 1), (1172, .iload_n 3, 1), (1173, .iconst 3, 1), (1174, .iadd, 1), (1175, .iaload, 1), (1176, .aload_n 0, 1), (1177, .iload_n 3, 1), (1178, .iconst 4, 1), (1179, .iadd, 1), (1180, .iaload, 1), (1181, .aload_n 0, 1), (1182, .iload_n 3, 1), (1183, .iconst 5, 1), (1184, .iadd, 1), (1185, .iaload, 1), (1186, .aload_n 0, 1), (1187, .iload_n 3, 1)]
theorem dd_L_law_c13 : Dall 208 dl_L_law_c13 = true := by decide +kernel
def dl_L_law_c14 : List (Nat × Instr × Nat) := [(1188, .bipush 6, 2), (1190, .iadd, 1), (1191, .iaload, 1), (1192, .invokevirtual 127, 3), (1195, .aload_n 2, 1), (1196, .aload_n 0, 1), (1197, .iload_n 3, 1), (1198, .iconst 1, 1), (1199, .iadd, 1), (1200, .iaload, 1), (1201, .aload_n 0, 1), (1202, .iload_n 3, 1), (1203, .iconst 2, 1), (1204, .iadd, 1), (1205, .iaload, 1), (1206, .aload_n 0, 1), (1207, .iload_n 3, 1), (1208, .iconst 3, 1), (1209, .iadd, 1), (1210, .iaload, 1), (1211, .aload_n 0, 1), (1212, .iload_n 3, 1), (1213, .iconst 4, 1), (1214, .iadd, 1), (1215, .iaload, 1), (1216, .aload_n 0, 1), (1217, .iload_n 3, 1), (1218, .iconst 5, 1), (1219, .iadd, 1), (1220, .iaload, 1), (1221, .aload_n 0, 1), (1222, .iload_n 3, 1), (1223, .bipush 6, 2), (1225, .iadd, 1), (1226, .iaload, 1), (1227, .invokevirtual 131, 3), (1230, .if_icmp .eq 382, 3), (1233, .iconst 0, 1), (1234, .ireturn, 1), (1235, .aload_n 1, 1), (1236, .aload_n 0, 1), (1237, .iload_n 3, 1), (1238, .iconst 1, 1), (1239, .iadd, 1), (1240, .iaload, 1), (1241, .aload_n 0, 1), (1242, .iload_n 3, 1), (1243, .iconst 2, 1), (1244, .iadd, 1), (1245, .iaload, 1), (1246, .invokevirtual 132, 3), (1249, .aload_n 2, 1), (1250, .aload_n 0, 1), (1251, .iload_n 3, 1), (1252, .iconst 1, 1), (1253, .iadd, 1), (1254, .iaload, 1), (1255, .aload_n 0, 1), (1256, .iload_n 3, 1), (1257, .iconst 2, 1)]
theorem dd_L_law_c14 : Dall 208 dl_L_law_c14 = true := by decide +kernel
def dl_L_law_c15 : List (Nat × Instr × Nat) := [(1258, .iadd, 1), (1259, .iaload, 1), (1260, .invokevirtual 135, 3), (1263, .if_icmp .eq 349, 3), (1266, .iconst 0, 1), (1267, .ireturn, 1), (1268, .aload_n 1, 1), (1269, .aload_n 0, 1), (1270, .iload_n 3, 1), (1271, .iconst 1, 1), (1272, .iadd, 1), (1273, .iaload, 1), (1274, .aload_n 0, 1), (1275, .iload_n 3, 1), (1276, .iconst 2, 1), (1277, .iadd, 1), (1278, .iaload, 1), (1279, .aload_n 0, 1), (1280, .iload_n 3, 1), (1281, .iconst 3, 1), (1282, .iadd, 1), (1283, .iaload, 1), (1284, .invokevirtual 136, 3), (1287, .aload_n 2, 1), (1288, .aload_n 0, 1), (1289, .iload_n 3, 1), (1290, .iconst 1, 1), (1291, .iadd, 1), (1292, .iaload, 1), (1293, .aload_n 0, 1), (1294, .iload_n 3, 1), (1295, .iconst 2, 1), (1296, .iadd, 1), (1297, .iaload, 1), (1298, .aload_n 0, 1), (1299, .iload_n 3, 1), (1300, .iconst 3, 1), (1301, .iadd, 1), (1302, .iaload, 1), (1303, .invokevirtual 139, 3), (1306, .if_icmp .eq 306, 3), (1309, .iconst 0, 1), (1310, .ireturn, 1), (1311, .aload_n 1, 1), (1312, .aload_n 0, 1), (1313, .iload_n 3, 1), (1314, .iconst 1, 1), (1315, .iadd, 1), (1316, .iaload, 1), (1317, .invokevirtual 140, 3), (1320, .aload_n 2, 1), (1321, .aload_n 0, 1), (1322, .iload_n 3, 1), (1323, .iconst 1, 1), (1324, .iadd, 1), (1325, .iaload, 1), (1326, .invokevirtual 143, 3), (1329, .if_icmp .eq 283, 3), (1332, .iconst 0, 1), (1333, .ireturn, 1)]
theorem dd_L_law_c15 : Dall 208 dl_L_law_c15 = true := by decide +kernel
def dl_L_law_c16 : List (Nat × Instr × Nat) := [(1334, .aload_n 1, 1), (1335, .aload_n 0, 1), (1336, .iload_n 3, 1), (1337, .iconst 1, 1), (1338, .iadd, 1), (1339, .iaload, 1), (1340, .aload_n 0, 1), (1341, .iload_n 3, 1), (1342, .iconst 2, 1), (1343, .iadd, 1), (1344, .iaload, 1), (1345, .aload_n 0, 1), (1346, .iload_n 3, 1), (1347, .iconst 3, 1), (1348, .iadd, 1), (1349, .iaload, 1), (1350, .invokevirtual 144, 3), (1353, .aload_n 2, 1), (1354, .aload_n 0, 1), (1355, .iload_n 3, 1), (1356, .iconst 1, 1), (1357, .iadd, 1), (1358, .iaload, 1), (1359, .aload_n 0, 1), (1360, .iload_n 3, 1), (1361, .iconst 2, 1), (1362, .iadd, 1), (1363, .iaload, 1), (1364, .aload_n 0, 1), (1365, .iload_n 3, 1), (1366, .iconst 3, 1), (1367, .iadd, 1), (1368, .iaload, 1), (1369, .invokevirtual 147, 3), (1372, .if_icmp .eq 240, 3), (1375, .iconst 0, 1), (1376, .ireturn, 1), (1377, .aload_n 1, 1), (1378, .aload_n 0, 1), (1379, .iload_n 3, 1), (1380, .iconst 1, 1), (1381, .iadd, 1), (1382, .iaload, 1), (1383, .aload_n 0, 1), (1384, .iload_n 3, 1), (1385, .iconst 2, 1), (1386, .iadd, 1), (1387, .iaload, 1), (1388, .aload_n 0, 1), (1389, .iload_n 3, 1), (1390, .iconst 3, 1), (1391, .iadd, 1), (1392, .iaload, 1), (1393, .invokevirtual 148, 3), (1396, .aload_n 2, 1), (1397, .aload_n 0, 1), (1398, .iload_n 3, 1), (1399, .iconst 1, 1), (1400, .iadd, 1), (1401, .iaload, 1)]
theorem dd_L_law_c16 : Dall 208 dl_L_law_c16 = true := by decide +kernel
def dl_L_law_c17 : List (Nat × Instr × Nat) := [(1402, .aload_n 0, 1), (1403, .iload_n 3, 1), (1404, .iconst 2, 1), (1405, .iadd, 1), (1406, .iaload, 1), (1407, .aload_n 0, 1), (1408, .iload_n 3, 1), (1409, .iconst 3, 1), (1410, .iadd, 1), (1411, .iaload, 1), (1412, .invokevirtual 152, 3), (1415, .lcmp, 1), (1416, .ifCond .eq 196, 3), (1419, .iconst 0, 1), (1420, .ireturn, 1), (1421, .aload_n 1, 1), (1422, .aload_n 0, 1), (1423, .iload_n 3, 1), (1424, .iconst 1, 1), (1425, .iadd, 1), (1426, .iaload, 1), (1427, .aload_n 0, 1), (1428, .iload_n 3, 1), (1429, .iconst 2, 1), (1430, .iadd, 1), (1431, .iaload, 1), (1432, .aload_n 0, 1), (1433, .iload_n 3, 1), (1434, .iconst 3, 1), (1435, .iadd, 1), (1436, .iaload, 1), (1437, .aload_n 0, 1), (1438, .iload_n 3, 1), (1439, .iconst 4, 1), (1440, .iadd, 1), (1441, .iaload, 1), (1442, .aload_n 0, 1), (1443, .iload_n 3, 1), (1444, .iconst 5, 1), (1445, .iadd, 1), (1446, .iaload, 1), (1447, .invokevirtual 153, 3), (1450, .aload_n 2, 1), (1451, .aload_n 0, 1), (1452, .iload_n 3, 1), (1453, .iconst 1, 1), (1454, .iadd, 1), (1455, .iaload, 1), (1456, .aload_n 0, 1), (1457, .iload_n 3, 1), (1458, .iconst 2, 1), (1459, .iadd, 1), (1460, .iaload, 1), (1461, .aload_n 0, 1), (1462, .iload_n 3, 1), (1463, .iconst 3, 1), (1464, .iadd, 1), (1465, .iaload, 1), (1466, .aload_n 0, 1), (1467, .iload_n 3, 1)]
theorem dd_L_law_c17 : Dall 208 dl_L_law_c17 = true := by decide +kernel
def dl_L_law_c18 : List (Nat × Instr × Nat) := [(1468, .iconst 4, 1), (1469, .iadd, 1), (1470, .iaload, 1), (1471, .aload_n 0, 1), (1472, .iload_n 3, 1), (1473, .iconst 5, 1), (1474, .iadd, 1), (1475, .iaload, 1), (1476, .invokevirtual 157, 3), (1479, .if_icmp .eq 133, 3), (1482, .iconst 0, 1), (1483, .ireturn, 1), (1484, .aload_n 1, 1), (1485, .aload_n 0, 1), (1486, .iload_n 3, 1), (1487, .iconst 1, 1), (1488, .iadd, 1), (1489, .iaload, 1), (1490, .invokevirtual 158, 3), (1493, .aload_n 2, 1), (1494, .aload_n 0, 1), (1495, .iload_n 3, 1), (1496, .iconst 1, 1), (1497, .iadd, 1), (1498, .iaload, 1), (1499, .invokevirtual 161, 3), (1502, .if_icmp .eq 110, 3), (1505, .iconst 0, 1), (1506, .ireturn, 1), (1507, .aload_n 1, 1), (1508, .aload_n 0, 1), (1509, .iload_n 3, 1), (1510, .iconst 1, 1), (1511, .iadd, 1), (1512, .iaload, 1), (1513, .invokevirtual 162, 3), (1516, .aload_n 2, 1), (1517, .aload_n 0, 1), (1518, .iload_n 3, 1), (1519, .iconst 1, 1), (1520, .iadd, 1), (1521, .iaload, 1), (1522, .invokevirtual 165, 3), (1525, .if_icmp .eq 87, 3), (1528, .iconst 0, 1), (1529, .ireturn, 1), (1530, .aload_n 1, 1), (1531, .aload_n 0, 1), (1532, .iload_n 3, 1), (1533, .iconst 1, 1), (1534, .iadd, 1), (1535, .iaload, 1), (1536, .aload_n 0, 1), (1537, .iload_n 3, 1), (1538, .iconst 2, 1), (1539, .iadd, 1), (1540, .iaload, 1), (1541, .invokevirtual 166, 3), (1544, .aload_n 2, 1), (1545, .aload_n 0, 1)]
theorem dd_L_law_c18 : Dall 208 dl_L_law_c18 = true := by decide +kernel
def dl_L_law_c19 : List (Nat × Instr × Nat) := [(1546, .iload_n 3, 1), (1547, .iconst 1, 1), (1548, .iadd, 1), (1549, .iaload, 1), (1550, .aload_n 0, 1), (1551, .iload_n 3, 1), (1552, .iconst 2, 1), (1553, .iadd, 1), (1554, .iaload, 1), (1555, .invokevirtual 169, 3), (1558, .if_icmp .eq 54, 3), (1561, .iconst 0, 1), (1562, .ireturn, 1), (1563, .aload_n 1, 1), (1564, .invokevirtual 170, 3), (1567, .aload_n 2, 1), (1568, .invokevirtual 173, 3), (1571, .if_icmp .eq 41, 3), (1574, .iconst 0, 1), (1575, .ireturn, 1), (1576, .aload_n 1, 1), (1577, .invokevirtual 174, 3), (1580, .aload_n 2, 1), (1581, .invokevirtual 177, 3), (1584, .if_icmp .eq 28, 3), (1587, .iconst 0, 1), (1588, .ireturn, 1), (1589, .aload_n 1, 1), (1590, .aload_n 0, 1), (1591, .iload_n 3, 1), (1592, .iconst 1, 1), (1593, .iadd, 1), (1594, .iaload, 1), (1595, .invokevirtual 178, 3), (1598, .aload_n 2, 1), (1599, .aload_n 0, 1), (1600, .iload_n 3, 1), (1601, .iconst 1, 1), (1602, .iadd, 1), (1603, .iaload, 1), (1604, .invokevirtual 181, 3), (1607, .if_icmp .eq 5, 3), (1610, .iconst 0, 1), (1611, .ireturn, 1), (1612, .iinc 3 7, 3), (1615, .goto (-1597), 3), (1618, .iconst 1, 1), (1619, .ireturn, 1)]
theorem dd_L_law_c19 : Dall 208 dl_L_law_c19 = true := by decide +kernel
theorem t_L_law {h : Hp} {P : Value → Hp → Prop} {p0 : Nat} (T : (tg h 0 = 0) ∧ (okg 208 0 [.ref p0, .retAddr 0, .retAddr 0, .retAddr 0] [.ref 0] [.ref 0] = true) ∧ R 0 0 [.ref 0, .retAddr 0] [] (mk h 0 12 0 17) (fun _ h2 => R 208 7 [.ref p0, .retAddr 0, .retAddr 0, .retAddr 0] [.ref 0] h2 P)) : R 208 0 [.ref p0, .retAddr 0, .retAddr 0, .retAddr 0] [] h P := by
  obtain ⟨g1, T⟩ := T
  refine R_new (Dat dd_L_law_c0 0 rfl) (ci := 11) rfl rfl (q := 0) rfl g1 (by decide) ?_
  refine R_dup (Dat dd_L_law_c0 1 rfl) rfl ?_
  obtain ⟨g2, T⟩ := T
  exact R_call2 (Dat dd_L_law_c0 2 rfl) rfl rfl rfl rfl g2 rfl T
theorem t_L_law_7 {h : Hp} {P : Value → Hp → Prop} {a0 : Nat} {a1 a2 a3 : Value} (T : (tg h 400 = 0) ∧ (okg 208 126 [.ref a0, .ref 0, a2, a3] [.ref 400] [.ref 400] = true) ∧ R 126 0 [.ref 400] [] (mk h 400 13 0 37) (fun _ h2 => R 208 15 [.ref a0, .ref 0, a2, a3] [.ref 400] h2 P)) : R 208 7 [.ref a0, a1, a2, a3] [.ref 0] h P := by
  refine R_astore_n (Dat dd_L_law_c0 3 rfl) rfl rfl rfl ?_
  obtain ⟨g1, T⟩ := T
  refine R_new (Dat dd_L_law_c0 4 rfl) (ci := 12) rfl rfl (q := 400) rfl g1 (by decide) ?_
  refine R_dup (Dat dd_L_law_c0 5 rfl) rfl ?_
  obtain ⟨g2, T⟩ := T
  exact R_call2 (Dat dd_L_law_c0 6 rfl) rfl rfl rfl rfl g2 rfl T
theorem t_L_law_15 {h : Hp} {P : Value → Hp → Prop} {a0 : Nat} {a2 a3 : Value} (T : R 208 18 [.ref a0, .ref 0, .ref 400, .int (I 0)] [] h P) : R 208 15 [.ref a0, .ref 0, a2, a3] [.ref 400] h P := by
  refine R_astore_n (Dat dd_L_law_c0 7 rfl) rfl rfl rfl ?_
  refine R_iconst (Dat dd_L_law_c0 8 rfl) ?_
  refine R_istore_n (Dat dd_L_law_c0 9 rfl) rfl rfl ?_
  exact T
theorem t_L_law_18 {h : Hp} {P : Value → Hp → Prop} {a3 : Int} {a0 : Nat} (T : ((20 ≤ tg h a0 ∧ tg h a0 ≤ 25) ∨ tg h a0 = 30) ∧ (rng a3) ∧ (rng ((ln h a0 : Int) - 7)) ∧ ((((ln h a0 : Int) - 7) < a3 → P (.int (I 1)) h) ∧ (¬ ((ln h a0 : Int) - 7) < a3 → (tg h a0 = 20 ∨ tg h a0 = 30) ∧ ((ln h a0 : Int) ≤ 2147483648) ∧ (0 ≤ a3) ∧ (a3 < ln h a0) ∧ (rng (band (iv h a0 a3) 63)) ∧ ((((band (iv h a0 a3) 63) = 0 → (tg h a0 = 20 ∨ tg h a0 = 30) ∧ ((ln h a0 : Int) ≤ 2147483648) ∧ (0 ≤ (a3 + 1)) ∧ ((a3 + 1) < ln h a0) ∧ (tg h a0 = 20 ∨ tg h a0 = 30) ∧ ((ln h a0 : Int) ≤ 2147483648) ∧ (0 ≤ (a3 + 2)) ∧ ((a3 + 2) < ln h a0) ∧ (tg h a0 = 20 ∨ tg h a0 = 30) ∧ ((ln h a0 : Int) ≤ 2147483648) ∧ (0 ≤ (a3 + 3)) ∧ ((a3 + 3) < ln h a0) ∧ (tg h a0 = 20 ∨ tg h a0 = 30) ∧ ((ln h a0 : Int) ≤ 2147483648) ∧ (0 ≤ (a3 + 4)) ∧ ((a3 + 4) < ln h a0) ∧ (okg 208 7 [.ref a0, .ref 0, .ref 400, .int (I a3)] [] [.ref 0, .int (I (iv h a0 (a3 + 1))), .int (I (iv h a0 (a3 + 2))), .int (I (iv h a0 (a3 + 3))), .int (I (iv h a0 (a3 + 4)))] = true) ∧ (tg h 0 = 12) ∧ R 7 0 [.ref 0, .int (I (iv h a0 (a3 + 1))), .int (I (iv h a0 (a3 + 2))), .int (I (iv h a0 (a3 + 3))), .int (I (iv h a0 (a3 + 4))), .retAddr 0, .retAddr 0, .retAddr 0] [] h (fun v h2 => R 208 232 [.ref a0, .ref 0, .ref 400, .int (I a3)] (v :: []) h2 P)) ∧ ((band (iv h a0 a3) 63) = 1 → (tg h a0 = 20 ∨ tg h a0 = 30) ∧ ((ln h a0 : Int) ≤ 2147483648) ∧ (0 ≤ (a3 + 1)) ∧ ((a3 + 1) < ln h a0) ∧ (tg h a0 = 20 ∨ tg h a0 = 30) ∧ ((ln h a0 : Int) ≤ 2147483648) ∧ (0 ≤ (a3 + 2)) ∧ ((a3 + 2) < ln h a0) ∧ (tg h 0 = 12) ∧ R 27 0 [.ref 0, .int (I (iv h a0 (a3 + 1))), .int (I (iv h a0 (a3 + 2))), .retAddr 0] [] h (fun v h2 => R 208 275 [.ref a0, .ref 0, .ref 400, .int (I a3)] (v :: []) h2 P)) ∧ ((band (iv h a0 a3) 63) = 2 → (tg h a0 = 20 ∨ tg h a0 = 30) ∧ ((ln h a0 : Int) ≤ 2147483648) ∧ (0 ≤ (a3 + 1)) ∧ ((a3 + 1) < ln h a0) ∧ (tg h 0 = 12) ∧ R 33 0 [.ref 0, .int (I (iv h a0 (a3 + 1)))] [] h (fun v h2 => R 208 303 [.ref a0, .ref 0, .ref 400, .int (I a3)] (v :: []) h2 P)) ∧ ((band (iv h a0 a3) 63) = 3 → (tg h 0 = 12) ∧ R 35 0 [.ref 0] [] h (fun v h2 => R 208 321 [.ref a0, .ref 0, .ref 400, .int (I a3)] (v :: []) h2 P)) ∧ ((band (iv h a0 a3) 63) = 4 → (tg h a0 = 20 ∨ tg h a0 = 30) ∧ ((ln h a0 : Int) ≤ 2147483648) ∧ (0 ≤ (a3 + 1)) ∧ ((a3 + 1) < ln h a0) ∧ (tg h 0 = 12) ∧ R 37 0 [.ref 0, .int (I (iv h a0 (a3 + 1))), .retAddr 0] [] h (fun v h2 => R 208 339 [.ref a0, .ref 0, .ref 400, .int (I a3)] (v :: []) h2 P)) ∧ ((band (iv h a0 a3) 63) = 5 → (tg h a0 = 20 ∨ tg h a0 = 30) ∧ ((ln h a0 : Int) ≤ 2147483648) ∧ (0 ≤ (a3 + 1)) ∧ ((a3 + 1) < ln h a0) ∧ (tg h a0 = 20 ∨ tg h a0 = 30) ∧ ((ln h a0 : Int) ≤ 2147483648) ∧ (0 ≤ (a3 + 2)) ∧ ((a3 + 2) < ln h a0) ∧ (tg h 0 = 12) ∧ R 39 0 [.ref 0, .int (I (iv h a0 (a3 + 1))), .int (I (iv h a0 (a3 + 2)))] [] h (fun v h2 => R 208 367 [.ref a0, .ref 0, .ref 400, .int (I a3)] (v :: []) h2 P)) ∧ ((band (iv h a0 a3) 63) = 6 → (tg h a0 = 20 ∨ tg h a0 = 30) ∧ ((ln h a0 : Int) ≤ 2147483648) ∧ (0 ≤ (a3 + 1)) ∧ ((a3 + 1) < ln h a0) ∧ (tg h a0 = 20 ∨ tg h a0 = 30) ∧ ((ln h a0 : Int) ≤ 2147483648) ∧ (0 ≤ (a3 + 2)) ∧ ((a3 + 2) < ln h a0) ∧ (tg h a0 = 20 ∨ tg h a0 = 30) ∧ ((ln h a0 : Int) ≤ 2147483648) ∧ (0 ≤ (a3 + 3)) ∧ ((a3 + 3) < ln h a0) ∧ (tg h a0 = 20 ∨ tg h a0 = 30) ∧ ((ln h a0 : Int) ≤ 2147483648) ∧ (0 ≤ (a3 + 4)) ∧ ((a3 + 4) < ln h a0) ∧ (okg 208 40 [.ref a0, .ref 0, .ref 400, .int (I a3)] [] [.ref 0, .int (I (iv h a0 (a3 + 1))), .int (I (iv h a0 (a3 + 2))), .int (I (iv h a0 (a3 + 3))), .int (I (iv h a0 (a3 + 4)))] = true) ∧ (tg h 0 = 12) ∧ R 40 0 [.ref 0, .int (I (iv h a0 (a3 + 1))), .int (I (iv h a0 (a3 + 2))), .int (I (iv h a0 (a3 + 3))), .int (I (iv h a0 (a3 + 4))), .retAddr 0, .retAddr 0, .retAddr 0] [] h (fun v h2 => R 208 410 [.ref a0, .ref 0, .ref 400, .int (I a3)] (v :: []) h2 P)) ∧ ((band (iv h a0 a3) 63) = 7 → (tg h a0 = 20 ∨ tg h a0 = 30) ∧ ((ln h a0 : Int) ≤ 2147483648) ∧ (0 ≤ (a3 + 1)) ∧ ((a3 + 1) < ln h a0) ∧ (tg h a0 = 20 ∨ tg h a0 = 30) ∧ ((ln h a0 : Int) ≤ 2147483648) ∧ (0 ≤ (a3 + 2)) ∧ ((a3 + 2) < ln h a0) ∧ (tg h a0 = 20 ∨ tg h a0 = 30) ∧ ((ln h a0 : Int) ≤ 2147483648) ∧ (0 ≤ (a3 + 3)) ∧ ((a3 + 3) < ln h a0) ∧ (tg h 0 = 12) ∧ R 47 0 [.ref 0, .int (I (iv h a0 (a3 + 1))), .int (I (iv h a0 (a3 + 2))), .int (I (iv h a0 (a3 + 3))), .retAddr 0] [] h (fun v h2 => R 208 458 [.ref a0, .ref 0, .ref 400, .int (I a3)] (v :: []) h2 P)) ∧ ((band (iv h a0 a3) 63) = 8 → (tg h a0 = 20 ∨ tg h a0 = 30) ∧ ((ln h a0 : Int) ≤ 2147483648) ∧ (0 ≤ (a3 + 1)) ∧ ((a3 + 1) < ln h a0) ∧ (tg h 0 = 12) ∧ R 48 0 [.ref 0, .int (I (iv h a0 (a3 + 1))), .retAddr 0] [] h (fun v h2 => R 208 491 [.ref a0, .ref 0, .ref 400, .int (I a3)] (v :: []) h2 P)) ∧ ((band (iv h a0 a3) 63) = 9 → (tg h a0 = 20 ∨ tg h a0 = 30) ∧ ((ln h a0 : Int) ≤ 2147483648) ∧ (0 ≤ (a3 + 1)) ∧ ((a3 + 1) < ln h a0) ∧ (tg h a0 = 20 ∨ tg h a0 = 30) ∧ ((ln h a0 : Int) ≤ 2147483648) ∧ (0 ≤ (a3 + 2)) ∧ ((a3 + 2) < ln h a0) ∧ (tg h a0 = 20 ∨ tg h a0 = 30) ∧ ((ln h a0 : Int) ≤ 2147483648) ∧ (0 ≤ (a3 + 3)) ∧ ((a3 + 3) < ln h a0) ∧ (tg h a0 = 20 ∨ tg h a0 = 30) ∧ ((ln h a0 : Int) ≤ 2147483648) ∧ (0 ≤ (a3 + 4)) ∧ ((a3 + 4) < ln h a0) ∧ (tg h 0 = 12) ∧ R 49 0 [.ref 0, .int (I (iv h a0 (a3 + 1))), .int (I (iv h a0 (a3 + 2))), .int (I (iv h a0 (a3 + 3))), .int (I (iv h a0 (a3 + 4))), .retAddr 0] [] h (fun v h2 => R 208 529 [.ref a0, .ref 0, .ref 400, .int (I a3)] (v :: []) h2 P)) ∧ ((band (iv h a0 a3) 63) = 10 → (tg h a0 = 20 ∨ tg h a0 = 30) ∧ ((ln h a0 : Int) ≤ 2147483648) ∧ (0 ≤ (a3 + 1)) ∧ ((a3 + 1) < ln h a0) ∧ (tg h a0 = 20 ∨ tg h a0 = 30) ∧ ((ln h a0 : Int) ≤ 2147483648) ∧ (0 ≤ (a3 + 2)) ∧ ((a3 + 2) < ln h a0) ∧ (okg 208 54 [.ref a0, .ref 0, .ref 400, .int (I a3)] [] [.ref 0, .int (I (iv h a0 (a3 + 1))), .int (I (iv h a0 (a3 + 2)))] = true) ∧ (tg h 0 = 12) ∧ R 54 0 [.ref 0, .int (I (iv h a0 (a3 + 1))), .int (I (iv h a0 (a3 + 2))), .retAddr 0, .retAddr 0, .retAddr 0] [] h (fun v h2 => R 208 572 [.ref a0, .ref 0, .ref 400, .int (I a3)] (v :: []) h2 P)) ∧ ((band (iv h a0 a3) 63) = 11 → (tg h a0 = 20 ∨ tg h a0 = 30) ∧ ((ln h a0 : Int) ≤ 2147483648) ∧ (0 ≤ (a3 + 1)) ∧ ((a3 + 1) < ln h a0) ∧ (tg h a0 = 20 ∨ tg h a0 = 30) ∧ ((ln h a0 : Int) ≤ 2147483648) ∧ (0 ≤ (a3 + 2)) ∧ ((a3 + 2) < ln h a0) ∧ (tg h a0 = 20 ∨ tg h a0 = 30) ∧ ((ln h a0 : Int) ≤ 2147483648) ∧ (0 ≤ (a3 + 3)) ∧ ((a3 + 3) < ln h a0) ∧ (tg h a0 = 20 ∨ tg h a0 = 30) ∧ ((ln h a0 : Int) ≤ 2147483648) ∧ (0 ≤ (a3 + 4)) ∧ ((a3 + 4) < ln h a0) ∧ (okg 208 66 [.ref a0, .ref 0, .ref 400, .int (I a3)] [] [.ref 0, .int (I (iv h a0 (a3 + 1))), .int (I (iv h a0 (a3 + 2))), .int (I (iv h a0 (a3 + 3))), .int (I (iv h a0 (a3 + 4)))] = true) ∧ (tg h 0 = 12) ∧ R 66 0 [.ref 0, .int (I (iv h a0 (a3 + 1))), .int (I (iv h a0 (a3 + 2))), .int (I (iv h a0 (a3 + 3))), .int (I (iv h a0 (a3 + 4))), .retAddr 0, .retAddr 0, .retAddr 0, .retAddr 0, .retAddr 0] [] h (fun v h2 => R 208 615 [.ref a0, .ref 0, .ref 400, .int (I a3)] (v :: []) h2 P)) ∧ ((band (iv h a0 a3) 63) = 12 → (tg h 0 = 12) ∧ R 68 0 [.ref 0] [] h (fun v h2 => R 208 648 [.ref a0, .ref 0, .ref 400, .int (I a3)] (v :: []) h2 P)) ∧ ((band (iv h a0 a3) 63) = 13 → (tg h 0 = 12) ∧ R 71 0 [.ref 0, .retAddr 0] [] h (fun v h2 => R 208 661 [.ref a0, .ref 0, .ref 400, .int (I a3)] (v :: []) h2 P)) ∧ ((band (iv h a0 a3) 63) = 14 → (tg h a0 = 20 ∨ tg h a0 = 30) ∧ ((ln h a0 : Int) ≤ 2147483648) ∧ (0 ≤ (a3 + 1)) ∧ ((a3 + 1) < ln h a0) ∧ (tg h a0 = 20 ∨ tg h a0 = 30) ∧ ((ln h a0 : Int) ≤ 2147483648) ∧ (0 ≤ (a3 + 2)) ∧ ((a3 + 2) < ln h a0) ∧ (okg 208 74 [.ref a0, .ref 0, .ref 400, .int (I a3)] [] [.ref 0, .int (I (iv h a0 (a3 + 1))), .int (I (iv h a0 (a3 + 2)))] = true) ∧ (tg h 0 = 12) ∧ R 74 0 [.ref 0, .int (I (iv h a0 (a3 + 1))), .int (I (iv h a0 (a3 + 2))), .retAddr 0] [] h (fun v h2 => R 208 684 [.ref a0, .ref 0, .ref 400, .int (I a3)] (v :: []) h2 P)) ∧ ((band (iv h a0 a3) 63) = 15 → (tg h a0 = 20 ∨ tg h a0 = 30) ∧ ((ln h a0 : Int) ≤ 2147483648) ∧ (0 ≤ (a3 + 1)) ∧ ((a3 + 1) < ln h a0) ∧ (tg h a0 = 20 ∨ tg h a0 = 30) ∧ ((ln h a0 : Int) ≤ 2147483648) ∧ (0 ≤ (a3 + 2)) ∧ ((a3 + 2) < ln h a0) ∧ (tg h a0 = 20 ∨ tg h a0 = 30) ∧ ((ln h a0 : Int) ≤ 2147483648) ∧ (0 ≤ (a3 + 3)) ∧ ((a3 + 3) < ln h a0) ∧ (okg 208 76 [.ref a0, .ref 0, .ref 400, .int (I a3)] [] [.ref 0, .int (I (iv h a0 (a3 + 1))), .int (I (iv h a0 (a3 + 2))), .int (I (iv h a0 (a3 + 3)))] = true) ∧ (tg h 0 = 12) ∧ R 76 0 [.ref 0, .int (I (iv h a0 (a3 + 1))), .int (I (iv h a0 (a3 + 2))), .int (I (iv h a0 (a3 + 3))), .retAddr 0, .retAddr 0, .retAddr 0, .retAddr 0] [] h (fun v h2 => R 208 722 [.ref a0, .ref 0, .ref 400, .int (I a3)] (v :: []) h2 P)) ∧ ((band (iv h a0 a3) 63) = 16 → (tg h a0 = 20 ∨ tg h a0 = 30) ∧ ((ln h a0 : Int) ≤ 2147483648) ∧ (0 ≤ (a3 + 1)) ∧ ((a3 + 1) < ln h a0) ∧ (tg h a0 = 20 ∨ tg h a0 = 30) ∧ ((ln h a0 : Int) ≤ 2147483648) ∧ (0 ≤ (a3 + 2)) ∧ ((a3 + 2) < ln h a0) ∧ (tg h a0 = 20 ∨ tg h a0 = 30) ∧ ((ln h a0 : Int) ≤ 2147483648) ∧ (0 ≤ (a3 + 3)) ∧ ((a3 + 3) < ln h a0) ∧ (okg 208 77 [.ref a0, .ref 0, .ref 400, .int (I a3)] [] [.ref 0, .int (I (iv h a0 (a3 + 1))), .int (I (iv h a0 (a3 + 2))), .int (I (iv h a0 (a3 + 3)))] = true) ∧ (tg h 0 = 12) ∧ R 77 0 [.ref 0, .int (I (iv h a0 (a3 + 1))), .int (I (iv h a0 (a3 + 2))), .int (I (iv h a0 (a3 + 3))), .retAddr 0] [] h (fun v h2 => R 208 765 [.ref a0, .ref 0, .ref 400, .int (I a3)] (v :: []) h2 P)) ∧ ((band (iv h a0 a3) 63) = 17 → (tg h a0 = 20 ∨ tg h a0 = 30) ∧ ((ln h a0 : Int) ≤ 2147483648) ∧ (0 ≤ (a3 + 1)) ∧ ((a3 + 1) < ln h a0) ∧ (tg h a0 = 20 ∨ tg h a0 = 30) ∧ ((ln h a0 : Int) ≤ 2147483648) ∧ (0 ≤ (a3 + 2)) ∧ ((a3 + 2) < ln h a0) ∧ (tg h a0 = 20 ∨ tg h a0 = 30) ∧ ((ln h a0 : Int) ≤ 2147483648) ∧ (0 ≤ (a3 + 3)) ∧ ((a3 + 3) < ln h a0) ∧ (okg 208 80 [.ref a0, .ref 0, .ref 400, .int (I a3)] [] [.ref 0, .int (I (iv h a0 (a3 + 1))), .int (I (iv h a0 (a3 + 2))), .int (I (iv h a0 (a3 + 3)))] = true) ∧ (tg h 0 = 12) ∧ R 80 0 [.ref 0, .int (I (iv h a0 (a3 + 1))), .int (I (iv h a0 (a3 + 2))), .int (I (iv h a0 (a3 + 3))), .retAddr 0, .retAddr 0, .retAddr 0, .retAddr 0, .retAddr 0, .retAddr 0, .retAddr 0] [] h (fun v h2 => R 208 808 [.ref a0, .ref 0, .ref 400, .int (I a3)] (v :: []) h2 P)) ∧ ((band (iv h a0 a3) 63) = 18 → (tg h a0 = 20 ∨ tg h a0 = 30) ∧ ((ln h a0 : Int) ≤ 2147483648) ∧ (0 ≤ (a3 + 1)) ∧ ((a3 + 1) < ln h a0) ∧ (tg h a0 = 20 ∨ tg h a0 = 30) ∧ ((ln h a0 : Int) ≤ 2147483648) ∧ (0 ≤ (a3 + 2)) ∧ ((a3 + 2) < ln h a0) ∧ (tg h 0 = 12) ∧ R 83 0 [.ref 0, .int (I (iv h a0 (a3 + 1))), .int (I (iv h a0 (a3 + 2)))] [] h (fun v h2 => R 208 846 [.ref a0, .ref 0, .ref 400, .int (I a3)] (v :: []) h2 P)) ∧ ((band (iv h a0 a3) 63) = 19 → (tg h a0 = 20 ∨ tg h a0 = 30) ∧ ((ln h a0 : Int) ≤ 2147483648) ∧ (0 ≤ (a3 + 1)) ∧ ((a3 + 1) < ln h a0) ∧ (tg h a0 = 20 ∨ tg h a0 = 30) ∧ ((ln h a0 : Int) ≤ 2147483648) ∧ (0 ≤ (a3 + 2)) ∧ ((a3 + 2) < ln h a0) ∧ (tg h a0 = 20 ∨ tg h a0 = 30) ∧ ((ln h a0 : Int) ≤ 2147483648) ∧ (0 ≤ (a3 + 3)) ∧ ((a3 + 3) < ln h a0) ∧ (okg 208 88 [.ref a0, .ref 0, .ref 400, .int (I a3)] [] [.ref 0, .int (I (iv h a0 (a3 + 1))), .int (I (iv h a0 (a3 + 2))), .int (I (iv h a0 (a3 + 3)))] = true) ∧ (tg h 0 = 12) ∧ R 88 0 [.ref 0, .int (I (iv h a0 (a3 + 1))), .int (I (iv h a0 (a3 + 2))), .int (I (iv h a0 (a3 + 3))), .retAddr 0, .retAddr 0, .retAddr 0, .retAddr 0, .retAddr 0] [] h (fun v h2 => R 208 884 [.ref a0, .ref 0, .ref 400, .int (I a3)] (v :: []) h2 P)) ∧ ((band (iv h a0 a3) 63) = 20 → (tg h a0 = 20 ∨ tg h a0 = 30) ∧ ((ln h a0 : Int) ≤ 2147483648) ∧ (0 ≤ (a3 + 1)) ∧ ((a3 + 1) < ln h a0) ∧ (tg h a0 = 20 ∨ tg h a0 = 30) ∧ ((ln h a0 : Int) ≤ 2147483648) ∧ (0 ≤ (a3 + 2)) ∧ ((a3 + 2) < ln h a0) ∧ (tg h a0 = 20 ∨ tg h a0 = 30) ∧ ((ln h a0 : Int) ≤ 2147483648) ∧ (0 ≤ (a3 + 3)) ∧ ((a3 + 3) < ln h a0) ∧ (okg 208 94 [.ref a0, .ref 0, .ref 400, .int (I a3)] [] [.ref 0, .int (I (iv h a0 (a3 + 1))), .int (I (iv h a0 (a3 + 2))), .int (I (iv h a0 (a3 + 3)))] = true) ∧ (tg h 0 = 12) ∧ R 94 0 [.ref 0, .int (I (iv h a0 (a3 + 1))), .int (I (iv h a0 (a3 + 2))), .int (I (iv h a0 (a3 + 3))), .retAddr 0] [] h (fun v h2 => R 208 927 [.ref a0, .ref 0, .ref 400, .int (I a3)] (v :: []) h2 P)) ∧ ((band (iv h a0 a3) 63) = 21 → (tg h a0 = 20 ∨ tg h a0 = 30) ∧ ((ln h a0 : Int) ≤ 2147483648) ∧ (0 ≤ (a3 + 1)) ∧ ((a3 + 1) < ln h a0) ∧ (tg h a0 = 20 ∨ tg h a0 = 30) ∧ ((ln h a0 : Int) ≤ 2147483648) ∧ (0 ≤ (a3 + 2)) ∧ ((a3 + 2) < ln h a0) ∧ (tg h a0 = 20 ∨ tg h a0 = 30) ∧ ((ln h a0 : Int) ≤ 2147483648) ∧ (0 ≤ (a3 + 3)) ∧ ((a3 + 3) < ln h a0) ∧ (okg 208 95 [.ref a0, .ref 0, .ref 400, .int (I a3)] [] [.ref 0, .int (I (iv h a0 (a3 + 1))), .int (I (iv h a0 (a3 + 2))), .int (I (iv h a0 (a3 + 3)))] = true) ∧ (tg h 0 = 12) ∧ R 95 0 [.ref 0, .int (I (iv h a0 (a3 + 1))), .int (I (iv h a0 (a3 + 2))), .int (I (iv h a0 (a3 + 3))), .retAddr 0, .retAddr 0, .retAddr 0] [] h (fun v h2 => R 208 970 [.ref a0, .ref 0, .ref 400, .int (I a3)] (v :: []) h2 P)) ∧ ((band (iv h a0 a3) 63) = 22 → (tg h a0 = 20 ∨ tg h a0 = 30) ∧ ((ln h a0 : Int) ≤ 2147483648) ∧ (0 ≤ (a3 + 1)) ∧ ((a3 + 1) < ln h a0) ∧ (okg 208 97 [.ref a0, .ref 0, .ref 400, .int (I a3)] [] [.ref 0, .int (I (iv h a0 (a3 + 1)))] = true) ∧ (tg h 0 = 12) ∧ R 97 0 [.ref 0, .int (I (iv h a0 (a3 + 1))), .retAddr 0, .retAddr 0, .retAddr 0, .retAddr 0, .retAddr 0] [] h (fun v h2 => R 208 1003 [.ref a0, .ref 0, .ref 400, .int (I a3)] (v :: []) h2 P)) ∧ ((band (iv h a0 a3) 63) = 23 → (tg h a0 = 20 ∨ tg h a0 = 30) ∧ ((ln h a0 : Int) ≤ 2147483648) ∧ (0 ≤ (a3 + 1)) ∧ ((a3 + 1) < ln h a0) ∧ (tg h a0 = 20 ∨ tg h a0 = 30) ∧ ((ln h a0 : Int) ≤ 2147483648) ∧ (0 ≤ (a3 + 2)) ∧ ((a3 + 2) < ln h a0) ∧ (tg h a0 = 20 ∨ tg h a0 = 30) ∧ ((ln h a0 : Int) ≤ 2147483648) ∧ (0 ≤ (a3 + 3)) ∧ ((a3 + 3) < ln h a0) ∧ (tg h a0 = 20 ∨ tg h a0 = 30) ∧ ((ln h a0 : Int) ≤ 2147483648) ∧ (0 ≤ (a3 + 4)) ∧ ((a3 + 4) < ln h a0) ∧ (okg 208 98 [.ref a0, .ref 0, .ref 400, .int (I a3)] [] [.ref 0, .int (I (iv h a0 (a3 + 1))), .int (I (iv h a0 (a3 + 2))), .int (I (iv h a0 (a3 + 3))), .int (I (iv h a0 (a3 + 4)))] = true) ∧ (tg h 0 = 12) ∧ R 98 0 [.ref 0, .int (I (iv h a0 (a3 + 1))), .int (I (iv h a0 (a3 + 2))), .int (I (iv h a0 (a3 + 3))), .int (I (iv h a0 (a3 + 4))), .retAddr 0, .retAddr 0, .retAddr 0] [] h (fun v h2 => R 208 1041 [.ref a0, .ref 0, .ref 400, .int (I a3)] (v :: []) h2 P)) ∧ ((band (iv h a0 a3) 63) = 24 → (tg h a0 = 20 ∨ tg h a0 = 30) ∧ ((ln h a0 : Int) ≤ 2147483648) ∧ (0 ≤ (a3 + 1)) ∧ ((a3 + 1) < ln h a0) ∧ (tg h a0 = 20 ∨ tg h a0 = 30) ∧ ((ln h a0 : Int) ≤ 2147483648) ∧ (0 ≤ (a3 + 2)) ∧ ((a3 + 2) < ln h a0) ∧ (tg h 0 = 12) ∧ R 100 0 [.ref 0, .int (I (iv h a0 (a3 + 1))), .int (I (iv h a0 (a3 + 2)))] [] h (fun v h2 => R 208 1085 [.ref a0, .ref 0, .ref 400, .int (I a3)] (v :: []) h2 P)) ∧ ((band (iv h a0 a3) 63) = 25 → (tg h a0 = 20 ∨ tg h a0 = 30) ∧ ((ln h a0 : Int) ≤ 2147483648) ∧ (0 ≤ (a3 + 1)) ∧ ((a3 + 1) < ln h a0) ∧ (tg h 0 = 12) ∧ R 101 0 [.ref 0, .int (I (iv h a0 (a3 + 1)))] [] h (fun v h2 => R 208 1113 [.ref a0, .ref 0, .ref 400, .int (I a3)] (v :: []) h2 P)) ∧ ((band (iv h a0 a3) 63) = 26 → (tg h a0 = 20 ∨ tg h a0 = 30) ∧ ((ln h a0 : Int) ≤ 2147483648) ∧ (0 ≤ (a3 + 1)) ∧ ((a3 + 1) < ln h a0) ∧ (tg h a0 = 20 ∨ tg h a0 = 30) ∧ ((ln h a0 : Int) ≤ 2147483648) ∧ (0 ≤ (a3 + 2)) ∧ ((a3 + 2) < ln h a0) ∧ (okg 208 102 [.ref a0, .ref 0, .ref 400, .int (I a3)] [] [.ref 0, .int (I (iv h a0 (a3 + 1))), .int (I (iv h a0 (a3 + 2)))] = true) ∧ (tg h 0 = 12) ∧ R 102 0 [.ref 0, .int (I (iv h a0 (a3 + 1))), .int (I (iv h a0 (a3 + 2))), .retAddr 0, .retAddr 0, .retAddr 0, .retAddr 0, .retAddr 0] [] h (fun v h2 => R 208 1141 [.ref a0, .ref 0, .ref 400, .int (I a3)] (v :: []) h2 P)) ∧ ((band (iv h a0 a3) 63) = 27 → (tg h a0 = 20 ∨ tg h a0 = 30) ∧ ((ln h a0 : Int) ≤ 2147483648) ∧ (0 ≤ (a3 + 1)) ∧ ((a3 + 1) < ln h a0) ∧ (tg h a0 = 20 ∨ tg h a0 = 30) ∧ ((ln h a0 : Int) ≤ 2147483648) ∧ (0 ≤ (a3 + 2)) ∧ ((a3 + 2) < ln h a0) ∧ (tg h a0 = 20 ∨ tg h a0 = 30) ∧ ((ln h a0 : Int) ≤ 2147483648) ∧ (0 ≤ (a3 + 3)) ∧ ((a3 + 3) < ln h a0) ∧ (tg h a0 = 20 ∨ tg h a0 = 30) ∧ ((ln h a0 : Int) ≤ 2147483648) ∧ (0 ≤ (a3 + 4)) ∧ ((a3 + 4) < ln h a0) ∧ (tg h a0 = 20 ∨ tg h a0 = 30) ∧ ((ln h a0 : Int) ≤ 2147483648) ∧ (0 ≤ (a3 + 5)) ∧ ((a3 + 5) < ln h a0) ∧ (tg h a0 = 20 ∨ tg h a0 = 30) ∧ ((ln h a0 : Int) ≤ 2147483648) ∧ (0 ≤ (a3 + 6)) ∧ ((a3 + 6) < ln h a0) ∧ (okg 208 104 [.ref a0, .ref 0, .ref 400, .int (I a3)] [] [.ref 0, .int (I (iv h a0 (a3 + 1))), .int (I (iv h a0 (a3 + 2))), .int (I (iv h a0 (a3 + 3))), .int (I (iv h a0 (a3 + 4))), .int (I (iv h a0 (a3 + 5))), .int (I (iv h a0 (a3 + 6)))] = true) ∧ (tg h 0 = 12) ∧ R 104 0 [.ref 0, .int (I (iv h a0 (a3 + 1))), .int (I (iv h a0 (a3 + 2))), .int (I (iv h a0 (a3 + 3))), .int (I (iv h a0 (a3 + 4))), .int (I (iv h a0 (a3 + 5))), .int (I (iv h a0 (a3 + 6))), .retAddr 0, .retAddr 0, .retAddr 0, .retAddr 0, .retAddr 0, .retAddr 0] [] h (fun v h2 => R 208 1195 [.ref a0, .ref 0, .ref 400, .int (I a3)] (v :: []) h2 P)) ∧ ((band (iv h a0 a3) 63) = 28 → (tg h a0 = 20 ∨ tg h a0 = 30) ∧ ((ln h a0 : Int) ≤ 2147483648) ∧ (0 ≤ (a3 + 1)) ∧ ((a3 + 1) < ln h a0) ∧ (tg h a0 = 20 ∨ tg h a0 = 30) ∧ ((ln h a0 : Int) ≤ 2147483648) ∧ (0 ≤ (a3 + 2)) ∧ ((a3 + 2) < ln h a0) ∧ (okg 208 105 [.ref a0, .ref 0, .ref 400, .int (I a3)] [] [.ref 0, .int (I (iv h a0 (a3 + 1))), .int (I (iv h a0 (a3 + 2)))] = true) ∧ (tg h 0 = 12) ∧ R 105 0 [.ref 0, .int (I (iv h a0 (a3 + 1))), .int (I (iv h a0 (a3 + 2))), .retAddr 0, .retAddr 0, .retAddr 0, .retAddr 0, .retAddr 0] [] h (fun v h2 => R 208 1249 [.ref a0, .ref 0, .ref 400, .int (I a3)] (v :: []) h2 P)) ∧ ((band (iv h a0 a3) 63) = 29 → (tg h a0 = 20 ∨ tg h a0 = 30) ∧ ((ln h a0 : Int) ≤ 2147483648) ∧ (0 ≤ (a3 + 1)) ∧ ((a3 + 1) < ln h a0) ∧ (tg h a0 = 20 ∨ tg h a0 = 30) ∧ ((ln h a0 : Int) ≤ 2147483648) ∧ (0 ≤ (a3 + 2)) ∧ ((a3 + 2) < ln h a0) ∧ (tg h a0 = 20 ∨ tg h a0 = 30) ∧ ((ln h a0 : Int) ≤ 2147483648) ∧ (0 ≤ (a3 + 3)) ∧ ((a3 + 3) < ln h a0) ∧ (tg h 0 = 12) ∧ R 106 0 [.ref 0, .int (I (iv h a0 (a3 + 1))), .int (I (iv h a0 (a3 + 2))), .int (I (iv h a0 (a3 + 3)))] [] h (fun v h2 => R 208 1287 [.ref a0, .ref 0, .ref 400, .int (I a3)] (v :: []) h2 P)) ∧ ((band (iv h a0 a3) 63) = 30 → (tg h a0 = 20 ∨ tg h a0 = 30) ∧ ((ln h a0 : Int) ≤ 2147483648) ∧ (0 ≤ (a3 + 1)) ∧ ((a3 + 1) < ln h a0) ∧ (tg h 0 = 12) ∧ R 108 0 [.ref 0, .int (I (iv h a0 (a3 + 1))), .retAddr 0] [] h (fun v h2 => R 208 1320 [.ref a0, .ref 0, .ref 400, .int (I a3)] (v :: []) h2 P)) ∧ ((band (iv h a0 a3) 63) = 31 → (tg h a0 = 20 ∨ tg h a0 = 30) ∧ ((ln h a0 : Int) ≤ 2147483648) ∧ (0 ≤ (a3 + 1)) ∧ ((a3 + 1) < ln h a0) ∧ (tg h a0 = 20 ∨ tg h a0 = 30) ∧ ((ln h a0 : Int) ≤ 2147483648) ∧ (0 ≤ (a3 + 2)) ∧ ((a3 + 2) < ln h a0) ∧ (tg h a0 = 20 ∨ tg h a0 = 30) ∧ ((ln h a0 : Int) ≤ 2147483648) ∧ (0 ≤ (a3 + 3)) ∧ ((a3 + 3) < ln h a0) ∧ (tg h 0 = 12) ∧ R 109 0 [.ref 0, .int (I (iv h a0 (a3 + 1))), .int (I (iv h a0 (a3 + 2))), .int (I (iv h a0 (a3 + 3))), .retAddr 0] [] h (fun v h2 => R 208 1353 [.ref a0, .ref 0, .ref 400, .int (I a3)] (v :: []) h2 P)) ∧ ((band (iv h a0 a3) 63) = 32 → (tg h a0 = 20 ∨ tg h a0 = 30) ∧ ((ln h a0 : Int) ≤ 2147483648) ∧ (0 ≤ (a3 + 1)) ∧ ((a3 + 1) < ln h a0) ∧ (tg h a0 = 20 ∨ tg h a0 = 30) ∧ ((ln h a0 : Int) ≤ 2147483648) ∧ (0 ≤ (a3 + 2)) ∧ ((a3 + 2) < ln h a0) ∧ (tg h a0 = 20 ∨ tg h a0 = 30) ∧ ((ln h a0 : Int) ≤ 2147483648) ∧ (0 ≤ (a3 + 3)) ∧ ((a3 + 3) < ln h a0) ∧ (tg h 0 = 12) ∧ R 111 0 [.ref 0, .int (I (iv h a0 (a3 + 1))), .int (I (iv h a0 (a3 + 2))), .int (I (iv h a0 (a3 + 3)))] [] h (fun v h2 => R 208 1396 [.ref a0, .ref 0, .ref 400, .int (I a3)] (v :: []) h2 P)) ∧ ((band (iv h a0 a3) 63) = 33 → (tg h a0 = 20 ∨ tg h a0 = 30) ∧ ((ln h a0 : Int) ≤ 2147483648) ∧ (0 ≤ (a3 + 1)) ∧ ((a3 + 1) < ln h a0) ∧ (tg h a0 = 20 ∨ tg h a0 = 30) ∧ ((ln h a0 : Int) ≤ 2147483648) ∧ (0 ≤ (a3 + 2)) ∧ ((a3 + 2) < ln h a0) ∧ (tg h a0 = 20 ∨ tg h a0 = 30) ∧ ((ln h a0 : Int) ≤ 2147483648) ∧ (0 ≤ (a3 + 3)) ∧ ((a3 + 3) < ln h a0) ∧ (tg h a0 = 20 ∨ tg h a0 = 30) ∧ ((ln h a0 : Int) ≤ 2147483648) ∧ (0 ≤ (a3 + 4)) ∧ ((a3 + 4) < ln h a0) ∧ (tg h a0 = 20 ∨ tg h a0 = 30) ∧ ((ln h a0 : Int) ≤ 2147483648) ∧ (0 ≤ (a3 + 5)) ∧ ((a3 + 5) < ln h a0) ∧ (tg h 0 = 12) ∧ R 112 0 [.ref 0, .int (I (iv h a0 (a3 + 1))), .int (I (iv h a0 (a3 + 2))), .int (I (iv h a0 (a3 + 3))), .int (I (iv h a0 (a3 + 4))), .int (I (iv h a0 (a3 + 5))), .retAddr 0, .retAddr 0] [] h (fun v h2 => R 208 1450 [.ref a0, .ref 0, .ref 400, .int (I a3)] (v :: []) h2 P)) ∧ ((band (iv h a0 a3) 63) = 34 → (tg h a0 = 20 ∨ tg h a0 = 30) ∧ ((ln h a0 : Int) ≤ 2147483648) ∧ (0 ≤ (a3 + 1)) ∧ ((a3 + 1) < ln h a0) ∧ (tg h 0 = 12) ∧ R 113 0 [.ref 0, .int (I (iv h a0 (a3 + 1)))] [] h (fun v h2 => R 208 1493 [.ref a0, .ref 0, .ref 400, .int (I a3)] (v :: []) h2 P)) ∧ ((band (iv h a0 a3) 63) = 35 → (tg h a0 = 20 ∨ tg h a0 = 30) ∧ ((ln h a0 : Int) ≤ 2147483648) ∧ (0 ≤ (a3 + 1)) ∧ ((a3 + 1) < ln h a0) ∧ (tg h 0 = 12) ∧ R 119 0 [.ref 0, .int (I (iv h a0 (a3 + 1)))] [] h (fun v h2 => R 208 1516 [.ref a0, .ref 0, .ref 400, .int (I a3)] (v :: []) h2 P)) ∧ ((band (iv h a0 a3) 63) = 36 → (tg h a0 = 20 ∨ tg h a0 = 30) ∧ ((ln h a0 : Int) ≤ 2147483648) ∧ (0 ≤ (a3 + 1)) ∧ ((a3 + 1) < ln h a0) ∧ (tg h a0 = 20 ∨ tg h a0 = 30) ∧ ((ln h a0 : Int) ≤ 2147483648) ∧ (0 ≤ (a3 + 2)) ∧ ((a3 + 2) < ln h a0) ∧ (tg h 0 = 12) ∧ R 122 0 [.ref 0, .int (I (iv h a0 (a3 + 1))), .int (I (iv h a0 (a3 + 2)))] [] h (fun v h2 => R 208 1544 [.ref a0, .ref 0, .ref 400, .int (I a3)] (v :: []) h2 P)) ∧ ((band (iv h a0 a3) 63) = 37 → (tg h 0 = 12) ∧ R 123 0 [.ref 0] [] h (fun v h2 => R 208 1567 [.ref a0, .ref 0, .ref 400, .int (I a3)] (v :: []) h2 P)) ∧ ((band (iv h a0 a3) 63) = 38 → (tg h 0 = 12) ∧ R 124 0 [.ref 0] [] h (fun v h2 => R 208 1580 [.ref a0, .ref 0, .ref 400, .int (I a3)] (v :: []) h2 P)) ∧ ((band (iv h a0 a3) 63) = 39 → (tg h a0 = 20 ∨ tg h a0 = 30) ∧ ((ln h a0 : Int) ≤ 2147483648) ∧ (0 ≤ (a3 + 1)) ∧ ((a3 + 1) < ln h a0) ∧ (tg h 0 = 12) ∧ R 125 0 [.ref 0, .int (I (iv h a0 (a3 + 1)))] [] h (fun v h2 => R 208 1598 [.ref a0, .ref 0, .ref 400, .int (I a3)] (v :: []) h2 P))) ∧ ((band (iv h a0 a3) 63) < 0 ∨ 39 < (band (iv h a0 a3) 63) → R 208 18 [.ref a0, .ref 0, .ref 400, .int (I (a3 + 7))] [] h P))))) : R 208 18 [.ref a0, .ref 0, .ref 400, .int (I a3)] [] h P := by
  refine R_iload_n (Dat dd_L_law_c0 10 rfl) rfl ?_
  refine R_aload_n (Dat dd_L_law_c0 11 rfl) rfl rfl ?_
  obtain ⟨g1, T⟩ := T
  refine R_alen (Dat dd_L_law_c0 12 rfl) g1 ?_
  refine R_bipush (Dat dd_L_law_c0 13 rfl) (a := 7) rfl ?_
  refine R_isub (Dat dd_L_law_c0 14 rfl) ?_
  obtain ⟨g2, T⟩ := T
  obtain ⟨g3, T⟩ := T
  refine R_ic_gt (Dat dd_L_law_c0 15 rfl) rfl g2 g3 (fun c => ?_) (fun c => ?_)
  · replace T := T.1 c
    refine R_iconst (Dat dd_L_law_c19 46 rfl) ?_
    exact R_ireturn (Dat dd_L_law_c19 47 rfl) rfl T
  · replace T := T.2 c
    refine R_aload_n (Dat dd_L_law_c0 16 rfl) rfl rfl ?_
    refine R_iload_n (Dat dd_L_law_c0 17 rfl) rfl ?_
    obtain ⟨g4, T⟩ := T
    obtain ⟨g5, T⟩ := T
    obtain ⟨g6, T⟩ := T
    obtain ⟨g7, T⟩ := T
    refine R_iaload (Dat dd_L_law_c0 18 rfl) g4 g5 g6 g7 ?_
    refine R_bipush (Dat dd_L_law_c0 19 rfl) (a := 63) rfl ?_
    refine R_iand (Dat dd_L_law_c0 20 rfl) ?_
    obtain ⟨g8, T⟩ := T
    refine R_tsw (lo := 0) (hi := 39) (Dat dd_L_law_c0 21 rfl) (td := 1612) (ts := [208, 261, 294, 317, 330, 353, 386, 439, 482, 505, 558, 591, 644, 657, 670, 703, 746, 789, 832, 865, 908, 951, 994, 1017, 1071, 1104, 1127, 1160, 1235, 1268, 1311, 1334, 1377, 1421, 1484, 1507, 1530, 1563, 1576, 1589]) g8 rfl rfl rfl rfl (fun i hi hc => ?_) (fun c => ?_)
    · obtain ⟨T, -⟩ := T
      have hi : i < 40 := hi
      rcases (show i = 0 ∨ i = 1 ∨ i = 2 ∨ i = 3 ∨ i = 4 ∨ i = 5 ∨ i = 6 ∨ i = 7 ∨ i = 8 ∨ i = 9 ∨ i = 10 ∨ i = 11 ∨ i = 12 ∨ i = 13 ∨ i = 14 ∨ i = 15 ∨ i = 16 ∨ i = 17 ∨ i = 18 ∨ i = 19 ∨ i = 20 ∨ i = 21 ∨ i = 22 ∨ i = 23 ∨ i = 24 ∨ i = 25 ∨ i = 26 ∨ i = 27 ∨ i = 28 ∨ i = 29 ∨ i = 30 ∨ i = 31 ∨ i = 32 ∨ i = 33 ∨ i = 34 ∨ i = 35 ∨ i = 36 ∨ i = 37 ∨ i = 38 ∨ i = 39 by omega) with rfl | rfl | rfl | rfl | rfl | rfl | rfl | rfl | rfl | rfl | rfl | rfl | rfl | rfl | rfl | rfl | rfl | rfl | rfl | rfl | rfl | rfl | rfl | rfl | rfl | rfl | rfl | rfl | rfl | rfl | rfl | rfl | rfl | rfl | rfl | rfl | rfl | rfl | rfl | rfl
      · replace T := T.1 (by exact hc)
        refine R_aload_n (Dat dd_L_law_c0 22 rfl) rfl rfl ?_
        refine R_aload_n (Dat dd_L_law_c0 23 rfl) rfl rfl ?_
        refine R_iload_n (Dat dd_L_law_c0 24 rfl) rfl ?_
        refine R_iconst (Dat dd_L_law_c0 25 rfl) ?_
        refine R_iadd (Dat dd_L_law_c0 26 rfl) ?_
        obtain ⟨g9, T⟩ := T
        obtain ⟨g10, T⟩ := T
        obtain ⟨g11, T⟩ := T
        obtain ⟨g12, T⟩ := T
        refine R_iaload (Dat dd_L_law_c0 27 rfl) g9 g10 g11 g12 ?_
        refine R_aload_n (Dat dd_L_law_c0 28 rfl) rfl rfl ?_
        refine R_iload_n (Dat dd_L_law_c0 29 rfl) rfl ?_
        refine R_iconst (Dat dd_L_law_c0 30 rfl) ?_
        refine R_iadd (Dat dd_L_law_c0 31 rfl) ?_
        obtain ⟨g13, T⟩ := T
        obtain ⟨g14, T⟩ := T
        obtain ⟨g15, T⟩ := T
        obtain ⟨g16, T⟩ := T
        refine R_iaload (Dat dd_L_law_c0 32 rfl) g13 g14 g15 g16 ?_
        refine R_aload_n (Dat dd_L_law_c0 33 rfl) rfl rfl ?_
        refine R_iload_n (Dat dd_L_law_c0 34 rfl) rfl ?_
        refine R_iconst (Dat dd_L_law_c0 35 rfl) ?_
        refine R_iadd (Dat dd_L_law_c0 36 rfl) ?_
        obtain ⟨g17, T⟩ := T
        obtain ⟨g18, T⟩ := T
        obtain ⟨g19, T⟩ := T
        obtain ⟨g20, T⟩ := T
        refine R_iaload (Dat dd_L_law_c0 37 rfl) g17 g18 g19 g20 ?_
        refine R_aload_n (Dat dd_L_law_c0 38 rfl) rfl rfl ?_
        refine R_iload_n (Dat dd_L_law_c0 39 rfl) rfl ?_
        refine R_iconst (Dat dd_L_law_c0 40 rfl) ?_
        refine R_iadd (Dat dd_L_law_c0 41 rfl) ?_
        obtain ⟨g21, T⟩ := T
        obtain ⟨g22, T⟩ := T
        obtain ⟨g23, T⟩ := T
        obtain ⟨g24, T⟩ := T
        refine R_iaload (Dat dd_L_law_c0 42 rfl) g21 g22 g23 g24 ?_
        obtain ⟨g25, T⟩ := T
        obtain ⟨g26, T⟩ := T
        exact R_call1 (Dat dd_L_law_c0 43 rfl) rfl g26 rfl rfl rfl g25 rfl T
      · replace T := T.2.1 (by exact hc)
        refine R_aload_n (Dat dd_L_law_c1 9 rfl) rfl rfl ?_
        refine R_aload_n (Dat dd_L_law_c1 10 rfl) rfl rfl ?_
        refine R_iload_n (Dat dd_L_law_c1 11 rfl) rfl ?_
        refine R_iconst (Dat dd_L_law_c1 12 rfl) ?_
        refine R_iadd (Dat dd_L_law_c1 13 rfl) ?_
        obtain ⟨g27, T⟩ := T
        obtain ⟨g28, T⟩ := T
        obtain ⟨g29, T⟩ := T
        obtain ⟨g30, T⟩ := T
        refine R_iaload (Dat dd_L_law_c1 14 rfl) g27 g28 g29 g30 ?_
        refine R_aload_n (Dat dd_L_law_c1 15 rfl) rfl rfl ?_
        refine R_iload_n (Dat dd_L_law_c1 16 rfl) rfl ?_
        refine R_iconst (Dat dd_L_law_c1 17 rfl) ?_
        refine R_iadd (Dat dd_L_law_c1 18 rfl) ?_
        obtain ⟨g31, T⟩ := T
        obtain ⟨g32, T⟩ := T
        obtain ⟨g33, T⟩ := T
        obtain ⟨g34, T⟩ := T
        refine R_iaload (Dat dd_L_law_c1 19 rfl) g31 g32 g33 g34 ?_
        obtain ⟨g35, T⟩ := T
        exact R_call1 (Dat dd_L_law_c1 20 rfl) rfl g35 rfl rfl rfl rfl rfl T
      · replace T := T.2.2.1 (by exact hc)
        refine R_aload_n (Dat dd_L_law_c1 36 rfl) rfl rfl ?_
        refine R_aload_n (Dat dd_L_law_c1 37 rfl) rfl rfl ?_
        refine R_iload_n (Dat dd_L_law_c1 38 rfl) rfl ?_
        refine R_iconst (Dat dd_L_law_c1 39 rfl) ?_
        refine R_iadd (Dat dd_L_law_c1 40 rfl) ?_
        obtain ⟨g36, T⟩ := T
        obtain ⟨g37, T⟩ := T
        obtain ⟨g38, T⟩ := T
        obtain ⟨g39, T⟩ := T
        refine R_iaload (Dat dd_L_law_c1 41 rfl) g36 g37 g38 g39 ?_
        obtain ⟨g40, T⟩ := T
        exact R_call1 (Dat dd_L_law_c1 42 rfl) rfl g40 rfl rfl rfl rfl rfl T
      · replace T := T.2.2.2.1 (by exact hc)
        refine R_aload_n (Dat dd_L_law_c1 53 rfl) rfl rfl ?_
        obtain ⟨g41, T⟩ := T
        exact R_call1 (Dat dd_L_law_c1 54 rfl) rfl g41 rfl rfl rfl rfl rfl T
      · replace T := T.2.2.2.2.1 (by exact hc)
        refine R_aload_n (Dat dd_L_law_c2 0 rfl) rfl rfl ?_
        refine R_aload_n (Dat dd_L_law_c2 1 rfl) rfl rfl ?_
        refine R_iload_n (Dat dd_L_law_c2 2 rfl) rfl ?_
        refine R_iconst (Dat dd_L_law_c2 3 rfl) ?_
        refine R_iadd (Dat dd_L_law_c2 4 rfl) ?_
        obtain ⟨g42, T⟩ := T
        obtain ⟨g43, T⟩ := T
        obtain ⟨g44, T⟩ := T
        obtain ⟨g45, T⟩ := T
        refine R_iaload (Dat dd_L_law_c2 5 rfl) g42 g43 g44 g45 ?_
        obtain ⟨g46, T⟩ := T
        exact R_call1 (Dat dd_L_law_c2 6 rfl) rfl g46 rfl rfl rfl rfl rfl T
      · replace T := T.2.2.2.2.2.1 (by exact hc)
        refine R_aload_n (Dat dd_L_law_c2 17 rfl) rfl rfl ?_
        refine R_aload_n (Dat dd_L_law_c2 18 rfl) rfl rfl ?_
        refine R_iload_n (Dat dd_L_law_c2 19 rfl) rfl ?_
        refine R_iconst (Dat dd_L_law_c2 20 rfl) ?_
        refine R_iadd (Dat dd_L_law_c2 21 rfl) ?_
        obtain ⟨g47, T⟩ := T
        obtain ⟨g48, T⟩ := T
        obtain ⟨g49, T⟩ := T
        obtain ⟨g50, T⟩ := T
        refine R_iaload (Dat dd_L_law_c2 22 rfl) g47 g48 g49 g50 ?_
        refine R_aload_n (Dat dd_L_law_c2 23 rfl) rfl rfl ?_
        refine R_iload_n (Dat dd_L_law_c2 24 rfl) rfl ?_
        refine R_iconst (Dat dd_L_law_c2 25 rfl) ?_
        refine R_iadd (Dat dd_L_law_c2 26 rfl) ?_
        obtain ⟨g51, T⟩ := T
        obtain ⟨g52, T⟩ := T
        obtain ⟨g53, T⟩ := T
        obtain ⟨g54, T⟩ := T
        refine R_iaload (Dat dd_L_law_c2 27 rfl) g51 g52 g53 g54 ?_
        obtain ⟨g55, T⟩ := T
        exact R_call1 (Dat dd_L_law_c2 28 rfl) rfl g55 rfl rfl rfl rfl rfl T
      · replace T := T.2.2.2.2.2.2.1 (by exact hc)
        refine R_aload_n (Dat dd_L_law_c2 44 rfl) rfl rfl ?_
        refine R_aload_n (Dat dd_L_law_c2 45 rfl) rfl rfl ?_
        refine R_iload_n (Dat dd_L_law_c2 46 rfl) rfl ?_
        refine R_iconst (Dat dd_L_law_c2 47 rfl) ?_
        refine R_iadd (Dat dd_L_law_c2 48 rfl) ?_
        obtain ⟨g56, T⟩ := T
        obtain ⟨g57, T⟩ := T
        obtain ⟨g58, T⟩ := T
        obtain ⟨g59, T⟩ := T
        refine R_iaload (Dat dd_L_law_c2 49 rfl) g56 g57 g58 g59 ?_
        refine R_aload_n (Dat dd_L_law_c2 50 rfl) rfl rfl ?_
        refine R_iload_n (Dat dd_L_law_c2 51 rfl) rfl ?_
        refine R_iconst (Dat dd_L_law_c2 52 rfl) ?_
        refine R_iadd (Dat dd_L_law_c2 53 rfl) ?_
        obtain ⟨g60, T⟩ := T
        obtain ⟨g61, T⟩ := T
        obtain ⟨g62, T⟩ := T
        obtain ⟨g63, T⟩ := T
        refine R_iaload (Dat dd_L_law_c2 54 rfl) g60 g61 g62 g63 ?_
        refine R_aload_n (Dat dd_L_law_c2 55 rfl) rfl rfl ?_
        refine R_iload_n (Dat dd_L_law_c2 56 rfl) rfl ?_
        refine R_iconst (Dat dd_L_law_c2 57 rfl) ?_
        refine R_iadd (Dat dd_L_law_c2 58 rfl) ?_
        obtain ⟨g64, T⟩ := T
        obtain ⟨g65, T⟩ := T
        obtain ⟨g66, T⟩ := T
        obtain ⟨g67, T⟩ := T
        refine R_iaload (Dat dd_L_law_c2 59 rfl) g64 g65 g66 g67 ?_
        refine R_aload_n (Dat dd_L_law_c3 0 rfl) rfl rfl ?_
        refine R_iload_n (Dat dd_L_law_c3 1 rfl) rfl ?_
        refine R_iconst (Dat dd_L_law_c3 2 rfl) ?_
        refine R_iadd (Dat dd_L_law_c3 3 rfl) ?_
        obtain ⟨g68, T⟩ := T
        obtain ⟨g69, T⟩ := T
        obtain ⟨g70, T⟩ := T
        obtain ⟨g71, T⟩ := T
        refine R_iaload (Dat dd_L_law_c3 4 rfl) g68 g69 g70 g71 ?_
        obtain ⟨g72, T⟩ := T
        obtain ⟨g73, T⟩ := T
        exact R_call1 (Dat dd_L_law_c3 5 rfl) rfl g73 rfl rfl rfl g72 rfl T
      · replace T := T.2.2.2.2.2.2.2.1 (by exact hc)
        refine R_aload_n (Dat dd_L_law_c3 31 rfl) rfl rfl ?_
        refine R_aload_n (Dat dd_L_law_c3 32 rfl) rfl rfl ?_
        refine R_iload_n (Dat dd_L_law_c3 33 rfl) rfl ?_
        refine R_iconst (Dat dd_L_law_c3 34 rfl) ?_
        refine R_iadd (Dat dd_L_law_c3 35 rfl) ?_
        obtain ⟨g74, T⟩ := T
        obtain ⟨g75, T⟩ := T
        obtain ⟨g76, T⟩ := T
        obtain ⟨g77, T⟩ := T
        refine R_iaload (Dat dd_L_law_c3 36 rfl) g74 g75 g76 g77 ?_
        refine R_aload_n (Dat dd_L_law_c3 37 rfl) rfl rfl ?_
        refine R_iload_n (Dat dd_L_law_c3 38 rfl) rfl ?_
        refine R_iconst (Dat dd_L_law_c3 39 rfl) ?_
        refine R_iadd (Dat dd_L_law_c3 40 rfl) ?_
        obtain ⟨g78, T⟩ := T
        obtain ⟨g79, T⟩ := T
        obtain ⟨g80, T⟩ := T
        obtain ⟨g81, T⟩ := T
        refine R_iaload (Dat dd_L_law_c3 41 rfl) g78 g79 g80 g81 ?_
        refine R_aload_n (Dat dd_L_law_c3 42 rfl) rfl rfl ?_
        refine R_iload_n (Dat dd_L_law_c3 43 rfl) rfl ?_
        refine R_iconst (Dat dd_L_law_c3 44 rfl) ?_
        refine R_iadd (Dat dd_L_law_c3 45 rfl) ?_
        obtain ⟨g82, T⟩ := T
        obtain ⟨g83, T⟩ := T
        obtain ⟨g84, T⟩ := T
        obtain ⟨g85, T⟩ := T
        refine R_iaload (Dat dd_L_law_c3 46 rfl) g82 g83 g84 g85 ?_
        obtain ⟨g86, T⟩ := T
        exact R_call1 (Dat dd_L_law_c3 47 rfl) rfl g86 rfl rfl rfl rfl rfl T
      · replace T := T.2.2.2.2.2.2.2.2.1 (by exact hc)
        refine R_aload_n (Dat dd_L_law_c4 8 rfl) rfl rfl ?_
        refine R_aload_n (Dat dd_L_law_c4 9 rfl) rfl rfl ?_
        refine R_iload_n (Dat dd_L_law_c4 10 rfl) rfl ?_
        refine R_iconst (Dat dd_L_law_c4 11 rfl) ?_
        refine R_iadd (Dat dd_L_law_c4 12 rfl) ?_
        obtain ⟨g87, T⟩ := T
        obtain ⟨g88, T⟩ := T
        obtain ⟨g89, T⟩ := T
        obtain ⟨g90, T⟩ := T
        refine R_iaload (Dat dd_L_law_c4 13 rfl) g87 g88 g89 g90 ?_
        obtain ⟨g91, T⟩ := T
        exact R_call1 (Dat dd_L_law_c4 14 rfl) rfl g91 rfl rfl rfl rfl rfl T
      · replace T := T.2.2.2.2.2.2.2.2.2.1 (by exact hc)
        refine R_aload_n (Dat dd_L_law_c4 25 rfl) rfl rfl ?_
        refine R_aload_n (Dat dd_L_law_c4 26 rfl) rfl rfl ?_
        refine R_iload_n (Dat dd_L_law_c4 27 rfl) rfl ?_
        refine R_iconst (Dat dd_L_law_c4 28 rfl) ?_
        refine R_iadd (Dat dd_L_law_c4 29 rfl) ?_
        obtain ⟨g92, T⟩ := T
        obtain ⟨g93, T⟩ := T
        obtain ⟨g94, T⟩ := T
        obtain ⟨g95, T⟩ := T
        refine R_iaload (Dat dd_L_law_c4 30 rfl) g92 g93 g94 g95 ?_
        refine R_aload_n (Dat dd_L_law_c4 31 rfl) rfl rfl ?_
        refine R_iload_n (Dat dd_L_law_c4 32 rfl) rfl ?_
        refine R_iconst (Dat dd_L_law_c4 33 rfl) ?_
        refine R_iadd (Dat dd_L_law_c4 34 rfl) ?_
        obtain ⟨g96, T⟩ := T
        obtain ⟨g97, T⟩ := T
        obtain ⟨g98, T⟩ := T
        obtain ⟨g99, T⟩ := T
        refine R_iaload (Dat dd_L_law_c4 35 rfl) g96 g97 g98 g99 ?_
        refine R_aload_n (Dat dd_L_law_c4 36 rfl) rfl rfl ?_
        refine R_iload_n (Dat dd_L_law_c4 37 rfl) rfl ?_
        refine R_iconst (Dat dd_L_law_c4 38 rfl) ?_
        refine R_iadd (Dat dd_L_law_c4 39 rfl) ?_
        obtain ⟨g100, T⟩ := T
        obtain ⟨g101, T⟩ := T
        obtain ⟨g102, T⟩ := T
        obtain ⟨g103, T⟩ := T
        refine R_iaload (Dat dd_L_law_c4 40 rfl) g100 g101 g102 g103 ?_
        refine R_aload_n (Dat dd_L_law_c4 41 rfl) rfl rfl ?_
        refine R_iload_n (Dat dd_L_law_c4 42 rfl) rfl ?_
        refine R_iconst (Dat dd_L_law_c4 43 rfl) ?_
        refine R_iadd (Dat dd_L_law_c4 44 rfl) ?_
        obtain ⟨g104, T⟩ := T
        obtain ⟨g105, T⟩ := T
        obtain ⟨g106, T⟩ := T
        obtain ⟨g107, T⟩ := T
        refine R_iaload (Dat dd_L_law_c4 45 rfl) g104 g105 g106 g107 ?_
        obtain ⟨g108, T⟩ := T
        exact R_call1 (Dat dd_L_law_c4 46 rfl) rfl g108 rfl rfl rfl rfl rfl T
      · replace T := T.2.2.2.2.2.2.2.2.2.2.1 (by exact hc)
        refine R_aload_n (Dat dd_L_law_c5 12 rfl) rfl rfl ?_
        refine R_aload_n (Dat dd_L_law_c5 13 rfl) rfl rfl ?_
        refine R_iload_n (Dat dd_L_law_c5 14 rfl) rfl ?_
        refine R_iconst (Dat dd_L_law_c5 15 rfl) ?_
        refine R_iadd (Dat dd_L_law_c5 16 rfl) ?_
        obtain ⟨g109, T⟩ := T
        obtain ⟨g110, T⟩ := T
        obtain ⟨g111, T⟩ := T
        obtain ⟨g112, T⟩ := T
        refine R_iaload (Dat dd_L_law_c5 17 rfl) g109 g110 g111 g112 ?_
        refine R_aload_n (Dat dd_L_law_c5 18 rfl) rfl rfl ?_
        refine R_iload_n (Dat dd_L_law_c5 19 rfl) rfl ?_
        refine R_iconst (Dat dd_L_law_c5 20 rfl) ?_
        refine R_iadd (Dat dd_L_law_c5 21 rfl) ?_
        obtain ⟨g113, T⟩ := T
        obtain ⟨g114, T⟩ := T
        obtain ⟨g115, T⟩ := T
        obtain ⟨g116, T⟩ := T
        refine R_iaload (Dat dd_L_law_c5 22 rfl) g113 g114 g115 g116 ?_
        obtain ⟨g117, T⟩ := T
        obtain ⟨g118, T⟩ := T
        exact R_call1 (Dat dd_L_law_c5 23 rfl) rfl g118 rfl rfl rfl g117 rfl T
      · replace T := T.2.2.2.2.2.2.2.2.2.2.2.1 (by exact hc)
        refine R_aload_n (Dat dd_L_law_c5 39 rfl) rfl rfl ?_
        refine R_aload_n (Dat dd_L_law_c5 40 rfl) rfl rfl ?_
        refine R_iload_n (Dat dd_L_law_c5 41 rfl) rfl ?_
        refine R_iconst (Dat dd_L_law_c5 42 rfl) ?_
        refine R_iadd (Dat dd_L_law_c5 43 rfl) ?_
        obtain ⟨g119, T⟩ := T
        obtain ⟨g120, T⟩ := T
        obtain ⟨g121, T⟩ := T
        obtain ⟨g122, T⟩ := T
        refine R_iaload (Dat dd_L_law_c5 44 rfl) g119 g120 g121 g122 ?_
        refine R_aload_n (Dat dd_L_law_c5 45 rfl) rfl rfl ?_
        refine R_iload_n (Dat dd_L_law_c5 46 rfl) rfl ?_
        refine R_iconst (Dat dd_L_law_c5 47 rfl) ?_
        refine R_iadd (Dat dd_L_law_c5 48 rfl) ?_
        obtain ⟨g123, T⟩ := T
        obtain ⟨g124, T⟩ := T
        obtain ⟨g125, T⟩ := T
        obtain ⟨g126, T⟩ := T
        refine R_iaload (Dat dd_L_law_c5 49 rfl) g123 g124 g125 g126 ?_
        refine R_aload_n (Dat dd_L_law_c5 50 rfl) rfl rfl ?_
        refine R_iload_n (Dat dd_L_law_c5 51 rfl) rfl ?_
        refine R_iconst (Dat dd_L_law_c5 52 rfl) ?_
        refine R_iadd (Dat dd_L_law_c5 53 rfl) ?_
        obtain ⟨g127, T⟩ := T
        obtain ⟨g128, T⟩ := T
        obtain ⟨g129, T⟩ := T
        obtain ⟨g130, T⟩ := T
        refine R_iaload (Dat dd_L_law_c5 54 rfl) g127 g128 g129 g130 ?_
        refine R_aload_n (Dat dd_L_law_c5 55 rfl) rfl rfl ?_
        refine R_iload_n (Dat dd_L_law_c5 56 rfl) rfl ?_
        refine R_iconst (Dat dd_L_law_c5 57 rfl) ?_
        refine R_iadd (Dat dd_L_law_c5 58 rfl) ?_
        obtain ⟨g131, T⟩ := T
        obtain ⟨g132, T⟩ := T
        obtain ⟨g133, T⟩ := T
        obtain ⟨g134, T⟩ := T
        refine R_iaload (Dat dd_L_law_c5 59 rfl) g131 g132 g133 g134 ?_
        obtain ⟨g135, T⟩ := T
        obtain ⟨g136, T⟩ := T
        exact R_call1 (Dat dd_L_law_c6 0 rfl) rfl g136 rfl rfl rfl g135 rfl T
      · replace T := T.2.2.2.2.2.2.2.2.2.2.2.2.1 (by exact hc)
        refine R_aload_n (Dat dd_L_law_c6 26 rfl) rfl rfl ?_
        obtain ⟨g137, T⟩ := T
        exact R_call1 (Dat dd_L_law_c6 27 rfl) rfl g137 rfl rfl rfl rfl rfl T
      · replace T := T.2.2.2.2.2.2.2.2.2.2.2.2.2.1 (by exact hc)
        refine R_aload_n (Dat dd_L_law_c6 33 rfl) rfl rfl ?_
        obtain ⟨g138, T⟩ := T
        exact R_call1 (Dat dd_L_law_c6 34 rfl) rfl g138 rfl rfl rfl rfl rfl T
      · replace T := T.2.2.2.2.2.2.2.2.2.2.2.2.2.2.1 (by exact hc)
        refine R_aload_n (Dat dd_L_law_c6 40 rfl) rfl rfl ?_
        refine R_aload_n (Dat dd_L_law_c6 41 rfl) rfl rfl ?_
        refine R_iload_n (Dat dd_L_law_c6 42 rfl) rfl ?_
        refine R_iconst (Dat dd_L_law_c6 43 rfl) ?_
        refine R_iadd (Dat dd_L_law_c6 44 rfl) ?_
        obtain ⟨g139, T⟩ := T
        obtain ⟨g140, T⟩ := T
        obtain ⟨g141, T⟩ := T
        obtain ⟨g142, T⟩ := T
        refine R_iaload (Dat dd_L_law_c6 45 rfl) g139 g140 g141 g142 ?_
        refine R_aload_n (Dat dd_L_law_c6 46 rfl) rfl rfl ?_
        refine R_iload_n (Dat dd_L_law_c6 47 rfl) rfl ?_
        refine R_iconst (Dat dd_L_law_c6 48 rfl) ?_
        refine R_iadd (Dat dd_L_law_c6 49 rfl) ?_
        obtain ⟨g143, T⟩ := T
        obtain ⟨g144, T⟩ := T
        obtain ⟨g145, T⟩ := T
        obtain ⟨g146, T⟩ := T
        refine R_iaload (Dat dd_L_law_c6 50 rfl) g143 g144 g145 g146 ?_
        obtain ⟨g147, T⟩ := T
        obtain ⟨g148, T⟩ := T
        exact R_call1 (Dat dd_L_law_c6 51 rfl) rfl g148 rfl rfl rfl g147 rfl T
      · replace T := T.2.2.2.2.2.2.2.2.2.2.2.2.2.2.2.1 (by exact hc)
        refine R_aload_n (Dat dd_L_law_c7 7 rfl) rfl rfl ?_
        refine R_aload_n (Dat dd_L_law_c7 8 rfl) rfl rfl ?_
        refine R_iload_n (Dat dd_L_law_c7 9 rfl) rfl ?_
        refine R_iconst (Dat dd_L_law_c7 10 rfl) ?_
        refine R_iadd (Dat dd_L_law_c7 11 rfl) ?_
        obtain ⟨g149, T⟩ := T
        obtain ⟨g150, T⟩ := T
        obtain ⟨g151, T⟩ := T
        obtain ⟨g152, T⟩ := T
        refine R_iaload (Dat dd_L_law_c7 12 rfl) g149 g150 g151 g152 ?_
        refine R_aload_n (Dat dd_L_law_c7 13 rfl) rfl rfl ?_
        refine R_iload_n (Dat dd_L_law_c7 14 rfl) rfl ?_
        refine R_iconst (Dat dd_L_law_c7 15 rfl) ?_
        refine R_iadd (Dat dd_L_law_c7 16 rfl) ?_
        obtain ⟨g153, T⟩ := T
        obtain ⟨g154, T⟩ := T
        obtain ⟨g155, T⟩ := T
        obtain ⟨g156, T⟩ := T
        refine R_iaload (Dat dd_L_law_c7 17 rfl) g153 g154 g155 g156 ?_
        refine R_aload_n (Dat dd_L_law_c7 18 rfl) rfl rfl ?_
        refine R_iload_n (Dat dd_L_law_c7 19 rfl) rfl ?_
        refine R_iconst (Dat dd_L_law_c7 20 rfl) ?_
        refine R_iadd (Dat dd_L_law_c7 21 rfl) ?_
        obtain ⟨g157, T⟩ := T
        obtain ⟨g158, T⟩ := T
        obtain ⟨g159, T⟩ := T
        obtain ⟨g160, T⟩ := T
        refine R_iaload (Dat dd_L_law_c7 22 rfl) g157 g158 g159 g160 ?_
        obtain ⟨g161, T⟩ := T
        obtain ⟨g162, T⟩ := T
        exact R_call1 (Dat dd_L_law_c7 23 rfl) rfl g162 rfl rfl rfl g161 rfl T
      · replace T := T.2.2.2.2.2.2.2.2.2.2.2.2.2.2.2.2.1 (by exact hc)
        refine R_aload_n (Dat dd_L_law_c7 44 rfl) rfl rfl ?_
        refine R_aload_n (Dat dd_L_law_c7 45 rfl) rfl rfl ?_
        refine R_iload_n (Dat dd_L_law_c7 46 rfl) rfl ?_
        refine R_iconst (Dat dd_L_law_c7 47 rfl) ?_
        refine R_iadd (Dat dd_L_law_c7 48 rfl) ?_
        obtain ⟨g163, T⟩ := T
        obtain ⟨g164, T⟩ := T
        obtain ⟨g165, T⟩ := T
        obtain ⟨g166, T⟩ := T
        refine R_iaload (Dat dd_L_law_c7 49 rfl) g163 g164 g165 g166 ?_
        refine R_aload_n (Dat dd_L_law_c7 50 rfl) rfl rfl ?_
        refine R_iload_n (Dat dd_L_law_c7 51 rfl) rfl ?_
        refine R_iconst (Dat dd_L_law_c7 52 rfl) ?_
        refine R_iadd (Dat dd_L_law_c7 53 rfl) ?_
        obtain ⟨g167, T⟩ := T
        obtain ⟨g168, T⟩ := T
        obtain ⟨g169, T⟩ := T
        obtain ⟨g170, T⟩ := T
        refine R_iaload (Dat dd_L_law_c7 54 rfl) g167 g168 g169 g170 ?_
        refine R_aload_n (Dat dd_L_law_c7 55 rfl) rfl rfl ?_
        refine R_iload_n (Dat dd_L_law_c7 56 rfl) rfl ?_
        refine R_iconst (Dat dd_L_law_c7 57 rfl) ?_
        refine R_iadd (Dat dd_L_law_c7 58 rfl) ?_
        obtain ⟨g171, T⟩ := T
        obtain ⟨g172, T⟩ := T
        obtain ⟨g173, T⟩ := T
        obtain ⟨g174, T⟩ := T
        refine R_iaload (Dat dd_L_law_c7 59 rfl) g171 g172 g173 g174 ?_
        obtain ⟨g175, T⟩ := T
        obtain ⟨g176, T⟩ := T
        exact R_call1 (Dat dd_L_law_c8 0 rfl) rfl g176 rfl rfl rfl g175 rfl T
      · replace T := T.2.2.2.2.2.2.2.2.2.2.2.2.2.2.2.2.2.1 (by exact hc)
        refine R_aload_n (Dat dd_L_law_c8 21 rfl) rfl rfl ?_
        refine R_aload_n (Dat dd_L_law_c8 22 rfl) rfl rfl ?_
        refine R_iload_n (Dat dd_L_law_c8 23 rfl) rfl ?_
        refine R_iconst (Dat dd_L_law_c8 24 rfl) ?_
        refine R_iadd (Dat dd_L_law_c8 25 rfl) ?_
        obtain ⟨g177, T⟩ := T
        obtain ⟨g178, T⟩ := T
        obtain ⟨g179, T⟩ := T
        obtain ⟨g180, T⟩ := T
        refine R_iaload (Dat dd_L_law_c8 26 rfl) g177 g178 g179 g180 ?_
        refine R_aload_n (Dat dd_L_law_c8 27 rfl) rfl rfl ?_
        refine R_iload_n (Dat dd_L_law_c8 28 rfl) rfl ?_
        refine R_iconst (Dat dd_L_law_c8 29 rfl) ?_
        refine R_iadd (Dat dd_L_law_c8 30 rfl) ?_
        obtain ⟨g181, T⟩ := T
        obtain ⟨g182, T⟩ := T
        obtain ⟨g183, T⟩ := T
        obtain ⟨g184, T⟩ := T
        refine R_iaload (Dat dd_L_law_c8 31 rfl) g181 g182 g183 g184 ?_
        refine R_aload_n (Dat dd_L_law_c8 32 rfl) rfl rfl ?_
        refine R_iload_n (Dat dd_L_law_c8 33 rfl) rfl ?_
        refine R_iconst (Dat dd_L_law_c8 34 rfl) ?_
        refine R_iadd (Dat dd_L_law_c8 35 rfl) ?_
        obtain ⟨g185, T⟩ := T
        obtain ⟨g186, T⟩ := T
        obtain ⟨g187, T⟩ := T
        obtain ⟨g188, T⟩ := T
        refine R_iaload (Dat dd_L_law_c8 36 rfl) g185 g186 g187 g188 ?_
        obtain ⟨g189, T⟩ := T
        obtain ⟨g190, T⟩ := T
        exact R_call1 (Dat dd_L_law_c8 37 rfl) rfl g190 rfl rfl rfl g189 rfl T
      · replace T := T.2.2.2.2.2.2.2.2.2.2.2.2.2.2.2.2.2.2.1 (by exact hc)
        refine R_aload_n (Dat dd_L_law_c8 58 rfl) rfl rfl ?_
        refine R_aload_n (Dat dd_L_law_c8 59 rfl) rfl rfl ?_
        refine R_iload_n (Dat dd_L_law_c9 0 rfl) rfl ?_
        refine R_iconst (Dat dd_L_law_c9 1 rfl) ?_
        refine R_iadd (Dat dd_L_law_c9 2 rfl) ?_
        obtain ⟨g191, T⟩ := T
        obtain ⟨g192, T⟩ := T
        obtain ⟨g193, T⟩ := T
        obtain ⟨g194, T⟩ := T
        refine R_iaload (Dat dd_L_law_c9 3 rfl) g191 g192 g193 g194 ?_
        refine R_aload_n (Dat dd_L_law_c9 4 rfl) rfl rfl ?_
        refine R_iload_n (Dat dd_L_law_c9 5 rfl) rfl ?_
        refine R_iconst (Dat dd_L_law_c9 6 rfl) ?_
        refine R_iadd (Dat dd_L_law_c9 7 rfl) ?_
        obtain ⟨g195, T⟩ := T
        obtain ⟨g196, T⟩ := T
        obtain ⟨g197, T⟩ := T
        obtain ⟨g198, T⟩ := T
        refine R_iaload (Dat dd_L_law_c9 8 rfl) g195 g196 g197 g198 ?_
        obtain ⟨g199, T⟩ := T
        exact R_call1 (Dat dd_L_law_c9 9 rfl) rfl g199 rfl rfl rfl rfl rfl T
      · replace T := T.2.2.2.2.2.2.2.2.2.2.2.2.2.2.2.2.2.2.2.1 (by exact hc)
        refine R_aload_n (Dat dd_L_law_c9 25 rfl) rfl rfl ?_
        refine R_aload_n (Dat dd_L_law_c9 26 rfl) rfl rfl ?_
        refine R_iload_n (Dat dd_L_law_c9 27 rfl) rfl ?_
        refine R_iconst (Dat dd_L_law_c9 28 rfl) ?_
        refine R_iadd (Dat dd_L_law_c9 29 rfl) ?_
        obtain ⟨g200, T⟩ := T
        obtain ⟨g201, T⟩ := T
        obtain ⟨g202, T⟩ := T
        obtain ⟨g203, T⟩ := T
        refine R_iaload (Dat dd_L_law_c9 30 rfl) g200 g201 g202 g203 ?_
        refine R_aload_n (Dat dd_L_law_c9 31 rfl) rfl rfl ?_
        refine R_iload_n (Dat dd_L_law_c9 32 rfl) rfl ?_
        refine R_iconst (Dat dd_L_law_c9 33 rfl) ?_
        refine R_iadd (Dat dd_L_law_c9 34 rfl) ?_
        obtain ⟨g204, T⟩ := T
        obtain ⟨g205, T⟩ := T
        obtain ⟨g206, T⟩ := T
        obtain ⟨g207, T⟩ := T
        refine R_iaload (Dat dd_L_law_c9 35 rfl) g204 g205 g206 g207 ?_
        refine R_aload_n (Dat dd_L_law_c9 36 rfl) rfl rfl ?_
        refine R_iload_n (Dat dd_L_law_c9 37 rfl) rfl ?_
        refine R_iconst (Dat dd_L_law_c9 38 rfl) ?_
        refine R_iadd (Dat dd_L_law_c9 39 rfl) ?_
        obtain ⟨g208, T⟩ := T
        obtain ⟨g209, T⟩ := T
        obtain ⟨g210, T⟩ := T
        obtain ⟨g211, T⟩ := T
        refine R_iaload (Dat dd_L_law_c9 40 rfl) g208 g209 g210 g211 ?_
        obtain ⟨g212, T⟩ := T
        obtain ⟨g213, T⟩ := T
        exact R_call1 (Dat dd_L_law_c9 41 rfl) rfl g213 rfl rfl rfl g212 rfl T
      · replace T := T.2.2.2.2.2.2.2.2.2.2.2.2.2.2.2.2.2.2.2.2.1 (by exact hc)
        refine R_aload_n (Dat dd_L_law_c10 2 rfl) rfl rfl ?_
        refine R_aload_n (Dat dd_L_law_c10 3 rfl) rfl rfl ?_
        refine R_iload_n (Dat dd_L_law_c10 4 rfl) rfl ?_
        refine R_iconst (Dat dd_L_law_c10 5 rfl) ?_
        refine R_iadd (Dat dd_L_law_c10 6 rfl) ?_
        obtain ⟨g214, T⟩ := T
        obtain ⟨g215, T⟩ := T
        obtain ⟨g216, T⟩ := T
        obtain ⟨g217, T⟩ := T
        refine R_iaload (Dat dd_L_law_c10 7 rfl) g214 g215 g216 g217 ?_
        refine R_aload_n (Dat dd_L_law_c10 8 rfl) rfl rfl ?_
        refine R_iload_n (Dat dd_L_law_c10 9 rfl) rfl ?_
        refine R_iconst (Dat dd_L_law_c10 10 rfl) ?_
        refine R_iadd (Dat dd_L_law_c10 11 rfl) ?_
        obtain ⟨g218, T⟩ := T
        obtain ⟨g219, T⟩ := T
        obtain ⟨g220, T⟩ := T
        obtain ⟨g221, T⟩ := T
        refine R_iaload (Dat dd_L_law_c10 12 rfl) g218 g219 g220 g221 ?_
        refine R_aload_n (Dat dd_L_law_c10 13 rfl) rfl rfl ?_
        refine R_iload_n (Dat dd_L_law_c10 14 rfl) rfl ?_
        refine R_iconst (Dat dd_L_law_c10 15 rfl) ?_
        refine R_iadd (Dat dd_L_law_c10 16 rfl) ?_
        obtain ⟨g222, T⟩ := T
        obtain ⟨g223, T⟩ := T
        obtain ⟨g224, T⟩ := T
        obtain ⟨g225, T⟩ := T
        refine R_iaload (Dat dd_L_law_c10 17 rfl) g222 g223 g224 g225 ?_
        obtain ⟨g226, T⟩ := T
        obtain ⟨g227, T⟩ := T
        exact R_call1 (Dat dd_L_law_c10 18 rfl) rfl g227 rfl rfl rfl g226 rfl T
      · replace T := T.2.2.2.2.2.2.2.2.2.2.2.2.2.2.2.2.2.2.2.2.2.1 (by exact hc)
        refine R_aload_n (Dat dd_L_law_c10 39 rfl) rfl rfl ?_
        refine R_aload_n (Dat dd_L_law_c10 40 rfl) rfl rfl ?_
        refine R_iload_n (Dat dd_L_law_c10 41 rfl) rfl ?_
        refine R_iconst (Dat dd_L_law_c10 42 rfl) ?_
        refine R_iadd (Dat dd_L_law_c10 43 rfl) ?_
        obtain ⟨g228, T⟩ := T
        obtain ⟨g229, T⟩ := T
        obtain ⟨g230, T⟩ := T
        obtain ⟨g231, T⟩ := T
        refine R_iaload (Dat dd_L_law_c10 44 rfl) g228 g229 g230 g231 ?_
        refine R_aload_n (Dat dd_L_law_c10 45 rfl) rfl rfl ?_
        refine R_iload_n (Dat dd_L_law_c10 46 rfl) rfl ?_
        refine R_iconst (Dat dd_L_law_c10 47 rfl) ?_
        refine R_iadd (Dat dd_L_law_c10 48 rfl) ?_
        obtain ⟨g232, T⟩ := T
        obtain ⟨g233, T⟩ := T
        obtain ⟨g234, T⟩ := T
        obtain ⟨g235, T⟩ := T
        refine R_iaload (Dat dd_L_law_c10 49 rfl) g232 g233 g234 g235 ?_
        refine R_aload_n (Dat dd_L_law_c10 50 rfl) rfl rfl ?_
        refine R_iload_n (Dat dd_L_law_c10 51 rfl) rfl ?_
        refine R_iconst (Dat dd_L_law_c10 52 rfl) ?_
        refine R_iadd (Dat dd_L_law_c10 53 rfl) ?_
        obtain ⟨g236, T⟩ := T
        obtain ⟨g237, T⟩ := T
        obtain ⟨g238, T⟩ := T
        obtain ⟨g239, T⟩ := T
        refine R_iaload (Dat dd_L_law_c10 54 rfl) g236 g237 g238 g239 ?_
        obtain ⟨g240, T⟩ := T
        obtain ⟨g241, T⟩ := T
        exact R_call1 (Dat dd_L_law_c10 55 rfl) rfl g241 rfl rfl rfl g240 rfl T
      · replace T := T.2.2.2.2.2.2.2.2.2.2.2.2.2.2.2.2.2.2.2.2.2.2.1 (by exact hc)
        refine R_aload_n (Dat dd_L_law_c11 16 rfl) rfl rfl ?_
        refine R_aload_n (Dat dd_L_law_c11 17 rfl) rfl rfl ?_
        refine R_iload_n (Dat dd_L_law_c11 18 rfl) rfl ?_
        refine R_iconst (Dat dd_L_law_c11 19 rfl) ?_
        refine R_iadd (Dat dd_L_law_c11 20 rfl) ?_
        obtain ⟨g242, T⟩ := T
        obtain ⟨g243, T⟩ := T
        obtain ⟨g244, T⟩ := T
        obtain ⟨g245, T⟩ := T
        refine R_iaload (Dat dd_L_law_c11 21 rfl) g242 g243 g244 g245 ?_
        obtain ⟨g246, T⟩ := T
        obtain ⟨g247, T⟩ := T
        exact R_call1 (Dat dd_L_law_c11 22 rfl) rfl g247 rfl rfl rfl g246 rfl T
      · replace T := T.2.2.2.2.2.2.2.2.2.2.2.2.2.2.2.2.2.2.2.2.2.2.2.1 (by exact hc)
        refine R_aload_n (Dat dd_L_law_c11 33 rfl) rfl rfl ?_
        refine R_aload_n (Dat dd_L_law_c11 34 rfl) rfl rfl ?_
        refine R_iload_n (Dat dd_L_law_c11 35 rfl) rfl ?_
        refine R_iconst (Dat dd_L_law_c11 36 rfl) ?_
        refine R_iadd (Dat dd_L_law_c11 37 rfl) ?_
        obtain ⟨g248, T⟩ := T
        obtain ⟨g249, T⟩ := T
        obtain ⟨g250, T⟩ := T
        obtain ⟨g251, T⟩ := T
        refine R_iaload (Dat dd_L_law_c11 38 rfl) g248 g249 g250 g251 ?_
        refine R_aload_n (Dat dd_L_law_c11 39 rfl) rfl rfl ?_
        refine R_iload_n (Dat dd_L_law_c11 40 rfl) rfl ?_
        refine R_iconst (Dat dd_L_law_c11 41 rfl) ?_
        refine R_iadd (Dat dd_L_law_c11 42 rfl) ?_
        obtain ⟨g252, T⟩ := T
        obtain ⟨g253, T⟩ := T
        obtain ⟨g254, T⟩ := T
        obtain ⟨g255, T⟩ := T
        refine R_iaload (Dat dd_L_law_c11 43 rfl) g252 g253 g254 g255 ?_
        refine R_aload_n (Dat dd_L_law_c11 44 rfl) rfl rfl ?_
        refine R_iload_n (Dat dd_L_law_c11 45 rfl) rfl ?_
        refine R_iconst (Dat dd_L_law_c11 46 rfl) ?_
        refine R_iadd (Dat dd_L_law_c11 47 rfl) ?_
        obtain ⟨g256, T⟩ := T
        obtain ⟨g257, T⟩ := T
        obtain ⟨g258, T⟩ := T
        obtain ⟨g259, T⟩ := T
        refine R_iaload (Dat dd_L_law_c11 48 rfl) g256 g257 g258 g259 ?_
        refine R_aload_n (Dat dd_L_law_c11 49 rfl) rfl rfl ?_
        refine R_iload_n (Dat dd_L_law_c11 50 rfl) rfl ?_
        refine R_iconst (Dat dd_L_law_c11 51 rfl) ?_
        refine R_iadd (Dat dd_L_law_c11 52 rfl) ?_
        obtain ⟨g260, T⟩ := T
        obtain ⟨g261, T⟩ := T
        obtain ⟨g262, T⟩ := T
        obtain ⟨g263, T⟩ := T
        refine R_iaload (Dat dd_L_law_c11 53 rfl) g260 g261 g262 g263 ?_
        obtain ⟨g264, T⟩ := T
        obtain ⟨g265, T⟩ := T
        exact R_call1 (Dat dd_L_law_c11 54 rfl) rfl g265 rfl rfl rfl g264 rfl T
      · replace T := T.2.2.2.2.2.2.2.2.2.2.2.2.2.2.2.2.2.2.2.2.2.2.2.2.1 (by exact hc)
        refine R_aload_n (Dat dd_L_law_c12 21 rfl) rfl rfl ?_
        refine R_aload_n (Dat dd_L_law_c12 22 rfl) rfl rfl ?_
        refine R_iload_n (Dat dd_L_law_c12 23 rfl) rfl ?_
        refine R_iconst (Dat dd_L_law_c12 24 rfl) ?_
        refine R_iadd (Dat dd_L_law_c12 25 rfl) ?_
        obtain ⟨g266, T⟩ := T
        obtain ⟨g267, T⟩ := T
        obtain ⟨g268, T⟩ := T
        obtain ⟨g269, T⟩ := T
        refine R_iaload (Dat dd_L_law_c12 26 rfl) g266 g267 g268 g269 ?_
        refine R_aload_n (Dat dd_L_law_c12 27 rfl) rfl rfl ?_
        refine R_iload_n (Dat dd_L_law_c12 28 rfl) rfl ?_
        refine R_iconst (Dat dd_L_law_c12 29 rfl) ?_
        refine R_iadd (Dat dd_L_law_c12 30 rfl) ?_
        obtain ⟨g270, T⟩ := T
        obtain ⟨g271, T⟩ := T
        obtain ⟨g272, T⟩ := T
        obtain ⟨g273, T⟩ := T
        refine R_iaload (Dat dd_L_law_c12 31 rfl) g270 g271 g272 g273 ?_
        obtain ⟨g274, T⟩ := T
        exact R_call1 (Dat dd_L_law_c12 32 rfl) rfl g274 rfl rfl rfl rfl rfl T
      · replace T := T.2.2.2.2.2.2.2.2.2.2.2.2.2.2.2.2.2.2.2.2.2.2.2.2.2.1 (by exact hc)
        refine R_aload_n (Dat dd_L_law_c12 48 rfl) rfl rfl ?_
        refine R_aload_n (Dat dd_L_law_c12 49 rfl) rfl rfl ?_
        refine R_iload_n (Dat dd_L_law_c12 50 rfl) rfl ?_
        refine R_iconst (Dat dd_L_law_c12 51 rfl) ?_
        refine R_iadd (Dat dd_L_law_c12 52 rfl) ?_
        obtain ⟨g275, T⟩ := T
        obtain ⟨g276, T⟩ := T
        obtain ⟨g277, T⟩ := T
        obtain ⟨g278, T⟩ := T
        refine R_iaload (Dat dd_L_law_c12 53 rfl) g275 g276 g277 g278 ?_
        obtain ⟨g279, T⟩ := T
        exact R_call1 (Dat dd_L_law_c12 54 rfl) rfl g279 rfl rfl rfl rfl rfl T
      · replace T := T.2.2.2.2.2.2.2.2.2.2.2.2.2.2.2.2.2.2.2.2.2.2.2.2.2.2.1 (by exact hc)
        refine R_aload_n (Dat dd_L_law_c13 5 rfl) rfl rfl ?_
        refine R_aload_n (Dat dd_L_law_c13 6 rfl) rfl rfl ?_
        refine R_iload_n (Dat dd_L_law_c13 7 rfl) rfl ?_
        refine R_iconst (Dat dd_L_law_c13 8 rfl) ?_
        refine R_iadd (Dat dd_L_law_c13 9 rfl) ?_
        obtain ⟨g280, T⟩ := T
        obtain ⟨g281, T⟩ := T
        obtain ⟨g282, T⟩ := T
        obtain ⟨g283, T⟩ := T
        refine R_iaload (Dat dd_L_law_c13 10 rfl) g280 g281 g282 g283 ?_
        refine R_aload_n (Dat dd_L_law_c13 11 rfl) rfl rfl ?_
        refine R_iload_n (Dat dd_L_law_c13 12 rfl) rfl ?_
        refine R_iconst (Dat dd_L_law_c13 13 rfl) ?_
        refine R_iadd (Dat dd_L_law_c13 14 rfl) ?_
        obtain ⟨g284, T⟩ := T
        obtain ⟨g285, T⟩ := T
        obtain ⟨g286, T⟩ := T
        obtain ⟨g287, T⟩ := T
        refine R_iaload (Dat dd_L_law_c13 15 rfl) g284 g285 g286 g287 ?_
        obtain ⟨g288, T⟩ := T
        obtain ⟨g289, T⟩ := T
        exact R_call1 (Dat dd_L_law_c13 16 rfl) rfl g289 rfl rfl rfl g288 rfl T
      · replace T := T.2.2.2.2.2.2.2.2.2.2.2.2.2.2.2.2.2.2.2.2.2.2.2.2.2.2.2.1 (by exact hc)
        refine R_aload_n (Dat dd_L_law_c13 32 rfl) rfl rfl ?_
        refine R_aload_n (Dat dd_L_law_c13 33 rfl) rfl rfl ?_
        refine R_iload_n (Dat dd_L_law_c13 34 rfl) rfl ?_
        refine R_iconst (Dat dd_L_law_c13 35 rfl) ?_
        refine R_iadd (Dat dd_L_law_c13 36 rfl) ?_
        obtain ⟨g290, T⟩ := T
        obtain ⟨g291, T⟩ := T
        obtain ⟨g292, T⟩ := T
        obtain ⟨g293, T⟩ := T
        refine R_iaload (Dat dd_L_law_c13 37 rfl) g290 g291 g292 g293 ?_
        refine R_aload_n (Dat dd_L_law_c13 38 rfl) rfl rfl ?_
        refine R_iload_n (Dat dd_L_law_c13 39 rfl) rfl ?_
        refine R_iconst (Dat dd_L_law_c13 40 rfl) ?_
        refine R_iadd (Dat dd_L_law_c13 41 rfl) ?_
        obtain ⟨g294, T⟩ := T
        obtain ⟨g295, T⟩ := T
        obtain ⟨g296, T⟩ := T
        obtain ⟨g297, T⟩ := T
        refine R_iaload (Dat dd_L_law_c13 42 rfl) g294 g295 g296 g297 ?_
        refine R_aload_n (Dat dd_L_law_c13 43 rfl) rfl rfl ?_
        refine R_iload_n (Dat dd_L_law_c13 44 rfl) rfl ?_
        refine R_iconst (Dat dd_L_law_c13 45 rfl) ?_
        refine R_iadd (Dat dd_L_law_c13 46 rfl) ?_
        obtain ⟨g298, T⟩ := T
        obtain ⟨g299, T⟩ := T
        obtain ⟨g300, T⟩ := T
        obtain ⟨g301, T⟩ := T
        refine R_iaload (Dat dd_L_law_c13 47 rfl) g298 g299 g300 g301 ?_
        refine R_aload_n (Dat dd_L_law_c13 48 rfl) rfl rfl ?_
        refine R_iload_n (Dat dd_L_law_c13 49 rfl) rfl ?_
        refine R_iconst (Dat dd_L_law_c13 50 rfl) ?_
        refine R_iadd (Dat dd_L_law_c13 51 rfl) ?_
        obtain ⟨g302, T⟩ := T
        obtain ⟨g303, T⟩ := T
        obtain ⟨g304, T⟩ := T
        obtain ⟨g305, T⟩ := T
        refine R_iaload (Dat dd_L_law_c13 52 rfl) g302 g303 g304 g305 ?_
        refine R_aload_n (Dat dd_L_law_c13 53 rfl) rfl rfl ?_
        refine R_iload_n (Dat dd_L_law_c13 54 rfl) rfl ?_
        refine R_iconst (Dat dd_L_law_c13 55 rfl) ?_
        refine R_iadd (Dat dd_L_law_c13 56 rfl) ?_
        obtain ⟨g306, T⟩ := T
        obtain ⟨g307, T⟩ := T
        obtain ⟨g308, T⟩ := T
        obtain ⟨g309, T⟩ := T
        refine R_iaload (Dat dd_L_law_c13 57 rfl) g306 g307 g308 g309 ?_
        refine R_aload_n (Dat dd_L_law_c13 58 rfl) rfl rfl ?_
        refine R_iload_n (Dat dd_L_law_c13 59 rfl) rfl ?_
        refine R_bipush (Dat dd_L_law_c14 0 rfl) (a := 6) rfl ?_
        refine R_iadd (Dat dd_L_law_c14 1 rfl) ?_
        obtain ⟨g310, T⟩ := T
        obtain ⟨g311, T⟩ := T
        obtain ⟨g312, T⟩ := T
        obtain ⟨g313, T⟩ := T
        refine R_iaload (Dat dd_L_law_c14 2 rfl) g310 g311 g312 g313 ?_
        obtain ⟨g314, T⟩ := T
        obtain ⟨g315, T⟩ := T
        exact R_call1 (Dat dd_L_law_c14 3 rfl) rfl g315 rfl rfl rfl g314 rfl T
      · replace T := T.2.2.2.2.2.2.2.2.2.2.2.2.2.2.2.2.2.2.2.2.2.2.2.2.2.2.2.2.1 (by exact hc)
        refine R_aload_n (Dat dd_L_law_c14 39 rfl) rfl rfl ?_
        refine R_aload_n (Dat dd_L_law_c14 40 rfl) rfl rfl ?_
        refine R_iload_n (Dat dd_L_law_c14 41 rfl) rfl ?_
        refine R_iconst (Dat dd_L_law_c14 42 rfl) ?_
        refine R_iadd (Dat dd_L_law_c14 43 rfl) ?_
        obtain ⟨g316, T⟩ := T
        obtain ⟨g317, T⟩ := T
        obtain ⟨g318, T⟩ := T
        obtain ⟨g319, T⟩ := T
        refine R_iaload (Dat dd_L_law_c14 44 rfl) g316 g317 g318 g319 ?_
        refine R_aload_n (Dat dd_L_law_c14 45 rfl) rfl rfl ?_
        refine R_iload_n (Dat dd_L_law_c14 46 rfl) rfl ?_
        refine R_iconst (Dat dd_L_law_c14 47 rfl) ?_
        refine R_iadd (Dat dd_L_law_c14 48 rfl) ?_
        obtain ⟨g320, T⟩ := T
        obtain ⟨g321, T⟩ := T
        obtain ⟨g322, T⟩ := T
        obtain ⟨g323, T⟩ := T
        refine R_iaload (Dat dd_L_law_c14 49 rfl) g320 g321 g322 g323 ?_
        obtain ⟨g324, T⟩ := T
        obtain ⟨g325, T⟩ := T
        exact R_call1 (Dat dd_L_law_c14 50 rfl) rfl g325 rfl rfl rfl g324 rfl T
      · replace T := T.2.2.2.2.2.2.2.2.2.2.2.2.2.2.2.2.2.2.2.2.2.2.2.2.2.2.2.2.2.1 (by exact hc)
        refine R_aload_n (Dat dd_L_law_c15 6 rfl) rfl rfl ?_
        refine R_aload_n (Dat dd_L_law_c15 7 rfl) rfl rfl ?_
        refine R_iload_n (Dat dd_L_law_c15 8 rfl) rfl ?_
        refine R_iconst (Dat dd_L_law_c15 9 rfl) ?_
        refine R_iadd (Dat dd_L_law_c15 10 rfl) ?_
        obtain ⟨g326, T⟩ := T
        obtain ⟨g327, T⟩ := T
        obtain ⟨g328, T⟩ := T
        obtain ⟨g329, T⟩ := T
        refine R_iaload (Dat dd_L_law_c15 11 rfl) g326 g327 g328 g329 ?_
        refine R_aload_n (Dat dd_L_law_c15 12 rfl) rfl rfl ?_
        refine R_iload_n (Dat dd_L_law_c15 13 rfl) rfl ?_
        refine R_iconst (Dat dd_L_law_c15 14 rfl) ?_
        refine R_iadd (Dat dd_L_law_c15 15 rfl) ?_
        obtain ⟨g330, T⟩ := T
        obtain ⟨g331, T⟩ := T
        obtain ⟨g332, T⟩ := T
        obtain ⟨g333, T⟩ := T
        refine R_iaload (Dat dd_L_law_c15 16 rfl) g330 g331 g332 g333 ?_
        refine R_aload_n (Dat dd_L_law_c15 17 rfl) rfl rfl ?_
        refine R_iload_n (Dat dd_L_law_c15 18 rfl) rfl ?_
        refine R_iconst (Dat dd_L_law_c15 19 rfl) ?_
        refine R_iadd (Dat dd_L_law_c15 20 rfl) ?_
        obtain ⟨g334, T⟩ := T
        obtain ⟨g335, T⟩ := T
        obtain ⟨g336, T⟩ := T
        obtain ⟨g337, T⟩ := T
        refine R_iaload (Dat dd_L_law_c15 21 rfl) g334 g335 g336 g337 ?_
        obtain ⟨g338, T⟩ := T
        exact R_call1 (Dat dd_L_law_c15 22 rfl) rfl g338 rfl rfl rfl rfl rfl T
      · replace T := T.2.2.2.2.2.2.2.2.2.2.2.2.2.2.2.2.2.2.2.2.2.2.2.2.2.2.2.2.2.2.1 (by exact hc)
        refine R_aload_n (Dat dd_L_law_c15 43 rfl) rfl rfl ?_
        refine R_aload_n (Dat dd_L_law_c15 44 rfl) rfl rfl ?_
        refine R_iload_n (Dat dd_L_law_c15 45 rfl) rfl ?_
        refine R_iconst (Dat dd_L_law_c15 46 rfl) ?_
        refine R_iadd (Dat dd_L_law_c15 47 rfl) ?_
        obtain ⟨g339, T⟩ := T
        obtain ⟨g340, T⟩ := T
        obtain ⟨g341, T⟩ := T
        obtain ⟨g342, T⟩ := T
        refine R_iaload (Dat dd_L_law_c15 48 rfl) g339 g340 g341 g342 ?_
        obtain ⟨g343, T⟩ := T
        exact R_call1 (Dat dd_L_law_c15 49 rfl) rfl g343 rfl rfl rfl rfl rfl T
      · replace T := T.2.2.2.2.2.2.2.2.2.2.2.2.2.2.2.2.2.2.2.2.2.2.2.2.2.2.2.2.2.2.2.1 (by exact hc)
        refine R_aload_n (Dat dd_L_law_c16 0 rfl) rfl rfl ?_
        refine R_aload_n (Dat dd_L_law_c16 1 rfl) rfl rfl ?_
        refine R_iload_n (Dat dd_L_law_c16 2 rfl) rfl ?_
        refine R_iconst (Dat dd_L_law_c16 3 rfl) ?_
        refine R_iadd (Dat dd_L_law_c16 4 rfl) ?_
        obtain ⟨g344, T⟩ := T
        obtain ⟨g345, T⟩ := T
        obtain ⟨g346, T⟩ := T
        obtain ⟨g347, T⟩ := T
        refine R_iaload (Dat dd_L_law_c16 5 rfl) g344 g345 g346 g347 ?_
        refine R_aload_n (Dat dd_L_law_c16 6 rfl) rfl rfl ?_
        refine R_iload_n (Dat dd_L_law_c16 7 rfl) rfl ?_
        refine R_iconst (Dat dd_L_law_c16 8 rfl) ?_
        refine R_iadd (Dat dd_L_law_c16 9 rfl) ?_
        obtain ⟨g348, T⟩ := T
        obtain ⟨g349, T⟩ := T
        obtain ⟨g350, T⟩ := T
        obtain ⟨g351, T⟩ := T
        refine R_iaload (Dat dd_L_law_c16 10 rfl) g348 g349 g350 g351 ?_
        refine R_aload_n (Dat dd_L_law_c16 11 rfl) rfl rfl ?_
        refine R_iload_n (Dat dd_L_law_c16 12 rfl) rfl ?_
        refine R_iconst (Dat dd_L_law_c16 13 rfl) ?_
        refine R_iadd (Dat dd_L_law_c16 14 rfl) ?_
        obtain ⟨g352, T⟩ := T
        obtain ⟨g353, T⟩ := T
        obtain ⟨g354, T⟩ := T
        obtain ⟨g355, T⟩ := T
        refine R_iaload (Dat dd_L_law_c16 15 rfl) g352 g353 g354 g355 ?_
        obtain ⟨g356, T⟩ := T
        exact R_call1 (Dat dd_L_law_c16 16 rfl) rfl g356 rfl rfl rfl rfl rfl T
      · replace T := T.2.2.2.2.2.2.2.2.2.2.2.2.2.2.2.2.2.2.2.2.2.2.2.2.2.2.2.2.2.2.2.2.1 (by exact hc)
        refine R_aload_n (Dat dd_L_law_c16 37 rfl) rfl rfl ?_
        refine R_aload_n (Dat dd_L_law_c16 38 rfl) rfl rfl ?_
        refine R_iload_n (Dat dd_L_law_c16 39 rfl) rfl ?_
        refine R_iconst (Dat dd_L_law_c16 40 rfl) ?_
        refine R_iadd (Dat dd_L_law_c16 41 rfl) ?_
        obtain ⟨g357, T⟩ := T
        obtain ⟨g358, T⟩ := T
        obtain ⟨g359, T⟩ := T
        obtain ⟨g360, T⟩ := T
        refine R_iaload (Dat dd_L_law_c16 42 rfl) g357 g358 g359 g360 ?_
        refine R_aload_n (Dat dd_L_law_c16 43 rfl) rfl rfl ?_
        refine R_iload_n (Dat dd_L_law_c16 44 rfl) rfl ?_
        refine R_iconst (Dat dd_L_law_c16 45 rfl) ?_
        refine R_iadd (Dat dd_L_law_c16 46 rfl) ?_
        obtain ⟨g361, T⟩ := T
        obtain ⟨g362, T⟩ := T
        obtain ⟨g363, T⟩ := T
        obtain ⟨g364, T⟩ := T
        refine R_iaload (Dat dd_L_law_c16 47 rfl) g361 g362 g363 g364 ?_
        refine R_aload_n (Dat dd_L_law_c16 48 rfl) rfl rfl ?_
        refine R_iload_n (Dat dd_L_law_c16 49 rfl) rfl ?_
        refine R_iconst (Dat dd_L_law_c16 50 rfl) ?_
        refine R_iadd (Dat dd_L_law_c16 51 rfl) ?_
        obtain ⟨g365, T⟩ := T
        obtain ⟨g366, T⟩ := T
        obtain ⟨g367, T⟩ := T
        obtain ⟨g368, T⟩ := T
        refine R_iaload (Dat dd_L_law_c16 52 rfl) g365 g366 g367 g368 ?_
        obtain ⟨g369, T⟩ := T
        exact R_call1 (Dat dd_L_law_c16 53 rfl) rfl g369 rfl rfl rfl rfl rfl T
      · replace T := T.2.2.2.2.2.2.2.2.2.2.2.2.2.2.2.2.2.2.2.2.2.2.2.2.2.2.2.2.2.2.2.2.2.1 (by exact hc)
        refine R_aload_n (Dat dd_L_law_c17 15 rfl) rfl rfl ?_
        refine R_aload_n (Dat dd_L_law_c17 16 rfl) rfl rfl ?_
        refine R_iload_n (Dat dd_L_law_c17 17 rfl) rfl ?_
        refine R_iconst (Dat dd_L_law_c17 18 rfl) ?_
        refine R_iadd (Dat dd_L_law_c17 19 rfl) ?_
        obtain ⟨g370, T⟩ := T
        obtain ⟨g371, T⟩ := T
        obtain ⟨g372, T⟩ := T
        obtain ⟨g373, T⟩ := T
        refine R_iaload (Dat dd_L_law_c17 20 rfl) g370 g371 g372 g373 ?_
        refine R_aload_n (Dat dd_L_law_c17 21 rfl) rfl rfl ?_
        refine R_iload_n (Dat dd_L_law_c17 22 rfl) rfl ?_
        refine R_iconst (Dat dd_L_law_c17 23 rfl) ?_
        refine R_iadd (Dat dd_L_law_c17 24 rfl) ?_
        obtain ⟨g374, T⟩ := T
        obtain ⟨g375, T⟩ := T
        obtain ⟨g376, T⟩ := T
        obtain ⟨g377, T⟩ := T
        refine R_iaload (Dat dd_L_law_c17 25 rfl) g374 g375 g376 g377 ?_
        refine R_aload_n (Dat dd_L_law_c17 26 rfl) rfl rfl ?_
        refine R_iload_n (Dat dd_L_law_c17 27 rfl) rfl ?_
        refine R_iconst (Dat dd_L_law_c17 28 rfl) ?_
        refine R_iadd (Dat dd_L_law_c17 29 rfl) ?_
        obtain ⟨g378, T⟩ := T
        obtain ⟨g379, T⟩ := T
        obtain ⟨g380, T⟩ := T
        obtain ⟨g381, T⟩ := T
        refine R_iaload (Dat dd_L_law_c17 30 rfl) g378 g379 g380 g381 ?_
        refine R_aload_n (Dat dd_L_law_c17 31 rfl) rfl rfl ?_
        refine R_iload_n (Dat dd_L_law_c17 32 rfl) rfl ?_
        refine R_iconst (Dat dd_L_law_c17 33 rfl) ?_
        refine R_iadd (Dat dd_L_law_c17 34 rfl) ?_
        obtain ⟨g382, T⟩ := T
        obtain ⟨g383, T⟩ := T
        obtain ⟨g384, T⟩ := T
        obtain ⟨g385, T⟩ := T
        refine R_iaload (Dat dd_L_law_c17 35 rfl) g382 g383 g384 g385 ?_
        refine R_aload_n (Dat dd_L_law_c17 36 rfl) rfl rfl ?_
        refine R_iload_n (Dat dd_L_law_c17 37 rfl) rfl ?_
        refine R_iconst (Dat dd_L_law_c17 38 rfl) ?_
        refine R_iadd (Dat dd_L_law_c17 39 rfl) ?_
        obtain ⟨g386, T⟩ := T
        obtain ⟨g387, T⟩ := T
        obtain ⟨g388, T⟩ := T
        obtain ⟨g389, T⟩ := T
        refine R_iaload (Dat dd_L_law_c17 40 rfl) g386 g387 g388 g389 ?_
        obtain ⟨g390, T⟩ := T
        exact R_call1 (Dat dd_L_law_c17 41 rfl) rfl g390 rfl rfl rfl rfl rfl T
      · replace T := T.2.2.2.2.2.2.2.2.2.2.2.2.2.2.2.2.2.2.2.2.2.2.2.2.2.2.2.2.2.2.2.2.2.2.1 (by exact hc)
        refine R_aload_n (Dat dd_L_law_c18 12 rfl) rfl rfl ?_
        refine R_aload_n (Dat dd_L_law_c18 13 rfl) rfl rfl ?_
        refine R_iload_n (Dat dd_L_law_c18 14 rfl) rfl ?_
        refine R_iconst (Dat dd_L_law_c18 15 rfl) ?_
        refine R_iadd (Dat dd_L_law_c18 16 rfl) ?_
        obtain ⟨g391, T⟩ := T
        obtain ⟨g392, T⟩ := T
        obtain ⟨g393, T⟩ := T
        obtain ⟨g394, T⟩ := T
        refine R_iaload (Dat dd_L_law_c18 17 rfl) g391 g392 g393 g394 ?_
        obtain ⟨g395, T⟩ := T
        exact R_call1 (Dat dd_L_law_c18 18 rfl) rfl g395 rfl rfl rfl rfl rfl T
      · replace T := T.2.2.2.2.2.2.2.2.2.2.2.2.2.2.2.2.2.2.2.2.2.2.2.2.2.2.2.2.2.2.2.2.2.2.2.1 (by exact hc)
        refine R_aload_n (Dat dd_L_law_c18 29 rfl) rfl rfl ?_
        refine R_aload_n (Dat dd_L_law_c18 30 rfl) rfl rfl ?_
        refine R_iload_n (Dat dd_L_law_c18 31 rfl) rfl ?_
        refine R_iconst (Dat dd_L_law_c18 32 rfl) ?_
        refine R_iadd (Dat dd_L_law_c18 33 rfl) ?_
        obtain ⟨g396, T⟩ := T
        obtain ⟨g397, T⟩ := T
        obtain ⟨g398, T⟩ := T
        obtain ⟨g399, T⟩ := T
        refine R_iaload (Dat dd_L_law_c18 34 rfl) g396 g397 g398 g399 ?_
        obtain ⟨g400, T⟩ := T
        exact R_call1 (Dat dd_L_law_c18 35 rfl) rfl g400 rfl rfl rfl rfl rfl T
      · replace T := T.2.2.2.2.2.2.2.2.2.2.2.2.2.2.2.2.2.2.2.2.2.2.2.2.2.2.2.2.2.2.2.2.2.2.2.2.1 (by exact hc)
        refine R_aload_n (Dat dd_L_law_c18 46 rfl) rfl rfl ?_
        refine R_aload_n (Dat dd_L_law_c18 47 rfl) rfl rfl ?_
        refine R_iload_n (Dat dd_L_law_c18 48 rfl) rfl ?_
        refine R_iconst (Dat dd_L_law_c18 49 rfl) ?_
        refine R_iadd (Dat dd_L_law_c18 50 rfl) ?_
        obtain ⟨g401, T⟩ := T
        obtain ⟨g402, T⟩ := T
        obtain ⟨g403, T⟩ := T
        obtain ⟨g404, T⟩ := T
        refine R_iaload (Dat dd_L_law_c18 51 rfl) g401 g402 g403 g404 ?_
        refine R_aload_n (Dat dd_L_law_c18 52 rfl) rfl rfl ?_
        refine R_iload_n (Dat dd_L_law_c18 53 rfl) rfl ?_
        refine R_iconst (Dat dd_L_law_c18 54 rfl) ?_
        refine R_iadd (Dat dd_L_law_c18 55 rfl) ?_
        obtain ⟨g405, T⟩ := T
        obtain ⟨g406, T⟩ := T
        obtain ⟨g407, T⟩ := T
        obtain ⟨g408, T⟩ := T
        refine R_iaload (Dat dd_L_law_c18 56 rfl) g405 g406 g407 g408 ?_
        obtain ⟨g409, T⟩ := T
        exact R_call1 (Dat dd_L_law_c18 57 rfl) rfl g409 rfl rfl rfl rfl rfl T
      · replace T := T.2.2.2.2.2.2.2.2.2.2.2.2.2.2.2.2.2.2.2.2.2.2.2.2.2.2.2.2.2.2.2.2.2.2.2.2.2.1 (by exact hc)
        refine R_aload_n (Dat dd_L_law_c19 13 rfl) rfl rfl ?_
        obtain ⟨g410, T⟩ := T
        exact R_call1 (Dat dd_L_law_c19 14 rfl) rfl g410 rfl rfl rfl rfl rfl T
      · replace T := T.2.2.2.2.2.2.2.2.2.2.2.2.2.2.2.2.2.2.2.2.2.2.2.2.2.2.2.2.2.2.2.2.2.2.2.2.2.2.1 (by exact hc)
        refine R_aload_n (Dat dd_L_law_c19 20 rfl) rfl rfl ?_
        obtain ⟨g411, T⟩ := T
        exact R_call1 (Dat dd_L_law_c19 21 rfl) rfl g411 rfl rfl rfl rfl rfl T
      · replace T := T.2.2.2.2.2.2.2.2.2.2.2.2.2.2.2.2.2.2.2.2.2.2.2.2.2.2.2.2.2.2.2.2.2.2.2.2.2.2.2 (by exact hc)
        refine R_aload_n (Dat dd_L_law_c19 27 rfl) rfl rfl ?_
        refine R_aload_n (Dat dd_L_law_c19 28 rfl) rfl rfl ?_
        refine R_iload_n (Dat dd_L_law_c19 29 rfl) rfl ?_
        refine R_iconst (Dat dd_L_law_c19 30 rfl) ?_
        refine R_iadd (Dat dd_L_law_c19 31 rfl) ?_
        obtain ⟨g412, T⟩ := T
        obtain ⟨g413, T⟩ := T
        obtain ⟨g414, T⟩ := T
        obtain ⟨g415, T⟩ := T
        refine R_iaload (Dat dd_L_law_c19 32 rfl) g412 g413 g414 g415 ?_
        obtain ⟨g416, T⟩ := T
        exact R_call1 (Dat dd_L_law_c19 33 rfl) rfl g416 rfl rfl rfl rfl rfl T
    · replace T := T.2 c
      refine R_iinc (Dat dd_L_law_c19 44 rfl) rfl rfl rfl ?_
      refine R_goto (Dat dd_L_law_c19 45 rfl) rfl ?_
      exact T
theorem t_L_law_232 {h : Hp} {P : Value → Hp → Prop} {a3 s0 : Int} {a0 : Nat} (T : (tg h a0 = 20 ∨ tg h a0 = 30) ∧ ((ln h a0 : Int) ≤ 2147483648) ∧ (0 ≤ (a3 + 1)) ∧ ((a3 + 1) < ln h a0) ∧ (tg h a0 = 20 ∨ tg h a0 = 30) ∧ ((ln h a0 : Int) ≤ 2147483648) ∧ (0 ≤ (a3 + 2)) ∧ ((a3 + 2) < ln h a0) ∧ (tg h a0 = 20 ∨ tg h a0 = 30) ∧ ((ln h a0 : Int) ≤ 2147483648) ∧ (0 ≤ (a3 + 3)) ∧ ((a3 + 3) < ln h a0) ∧ (tg h a0 = 20 ∨ tg h a0 = 30) ∧ ((ln h a0 : Int) ≤ 2147483648) ∧ (0 ≤ (a3 + 4)) ∧ ((a3 + 4) < ln h a0) ∧ (tg h 400 = 13) ∧ R 127 0 [.ref 400, .int (I (iv h a0 (a3 + 1))), .int (I (iv h a0 (a3 + 2))), .int (I (iv h a0 (a3 + 3))), .int (I (iv h a0 (a3 + 4))), .retAddr 0, .retAddr 0, .retAddr 0] [] h (fun v h2 => R 208 256 [.ref a0, .ref 0, .ref 400, .int (I a3)] (v :: [.int (I s0)]) h2 P)) : R 208 232 [.ref a0, .ref 0, .ref 400, .int (I a3)] [.int (I s0)] h P := by
  refine R_aload_n (Dat dd_L_law_c0 44 rfl) rfl rfl ?_
  refine R_aload_n (Dat dd_L_law_c0 45 rfl) rfl rfl ?_
  refine R_iload_n (Dat dd_L_law_c0 46 rfl) rfl ?_
  refine R_iconst (Dat dd_L_law_c0 47 rfl) ?_
  refine R_iadd (Dat dd_L_law_c0 48 rfl) ?_
  obtain ⟨g1, T⟩ := T
  obtain ⟨g2, T⟩ := T
  obtain ⟨g3, T⟩ := T
  obtain ⟨g4, T⟩ := T
  refine R_iaload (Dat dd_L_law_c0 49 rfl) g1 g2 g3 g4 ?_
  refine R_aload_n (Dat dd_L_law_c0 50 rfl) rfl rfl ?_
  refine R_iload_n (Dat dd_L_law_c0 51 rfl) rfl ?_
  refine R_iconst (Dat dd_L_law_c0 52 rfl) ?_
  refine R_iadd (Dat dd_L_law_c0 53 rfl) ?_
  obtain ⟨g5, T⟩ := T
  obtain ⟨g6, T⟩ := T
  obtain ⟨g7, T⟩ := T
  obtain ⟨g8, T⟩ := T
  refine R_iaload (Dat dd_L_law_c0 54 rfl) g5 g6 g7 g8 ?_
  refine R_aload_n (Dat dd_L_law_c0 55 rfl) rfl rfl ?_
  refine R_iload_n (Dat dd_L_law_c0 56 rfl) rfl ?_
  refine R_iconst (Dat dd_L_law_c0 57 rfl) ?_
  refine R_iadd (Dat dd_L_law_c0 58 rfl) ?_
  obtain ⟨g9, T⟩ := T
  obtain ⟨g10, T⟩ := T
  obtain ⟨g11, T⟩ := T
  obtain ⟨g12, T⟩ := T
  refine R_iaload (Dat dd_L_law_c0 59 rfl) g9 g10 g11 g12 ?_
  refine R_aload_n (Dat dd_L_law_c1 0 rfl) rfl rfl ?_
  refine R_iload_n (Dat dd_L_law_c1 1 rfl) rfl ?_
  refine R_iconst (Dat dd_L_law_c1 2 rfl) ?_
  refine R_iadd (Dat dd_L_law_c1 3 rfl) ?_
  obtain ⟨g13, T⟩ := T
  obtain ⟨g14, T⟩ := T
  obtain ⟨g15, T⟩ := T
  obtain ⟨g16, T⟩ := T
  refine R_iaload (Dat dd_L_law_c1 4 rfl) g13 g14 g15 g16 ?_
  obtain ⟨g17, T⟩ := T
  exact R_call1 (Dat dd_L_law_c1 5 rfl) rfl g17 rfl rfl rfl rfl rfl T
theorem t_L_law_275 {h : Hp} {P : Value → Hp → Prop} {a3 s0 : Int} {a0 : Nat} (T : (tg h a0 = 20 ∨ tg h a0 = 30) ∧ ((ln h a0 : Int) ≤ 2147483648) ∧ (0 ≤ (a3 + 1)) ∧ ((a3 + 1) < ln h a0) ∧ (tg h a0 = 20 ∨ tg h a0 = 30) ∧ ((ln h a0 : Int) ≤ 2147483648) ∧ (0 ≤ (a3 + 2)) ∧ ((a3 + 2) < ln h a0) ∧ (tg h 400 = 13) ∧ R 136 0 [.ref 400, .int (I (iv h a0 (a3 + 1))), .int (I (iv h a0 (a3 + 2)))] [] h (fun v h2 => R 208 289 [.ref a0, .ref 0, .ref 400, .int (I a3)] (v :: [.int (I s0)]) h2 P)) : R 208 275 [.ref a0, .ref 0, .ref 400, .int (I a3)] [.int (I s0)] h P := by
  refine R_aload_n (Dat dd_L_law_c1 21 rfl) rfl rfl ?_
  refine R_aload_n (Dat dd_L_law_c1 22 rfl) rfl rfl ?_
  refine R_iload_n (Dat dd_L_law_c1 23 rfl) rfl ?_
  refine R_iconst (Dat dd_L_law_c1 24 rfl) ?_
  refine R_iadd (Dat dd_L_law_c1 25 rfl) ?_
  obtain ⟨g1, T⟩ := T
  obtain ⟨g2, T⟩ := T
  obtain ⟨g3, T⟩ := T
  obtain ⟨g4, T⟩ := T
  refine R_iaload (Dat dd_L_law_c1 26 rfl) g1 g2 g3 g4 ?_
  refine R_aload_n (Dat dd_L_law_c1 27 rfl) rfl rfl ?_
  refine R_iload_n (Dat dd_L_law_c1 28 rfl) rfl ?_
  refine R_iconst (Dat dd_L_law_c1 29 rfl) ?_
  refine R_iadd (Dat dd_L_law_c1 30 rfl) ?_
  obtain ⟨g5, T⟩ := T
  obtain ⟨g6, T⟩ := T
  obtain ⟨g7, T⟩ := T
  obtain ⟨g8, T⟩ := T
  refine R_iaload (Dat dd_L_law_c1 31 rfl) g5 g6 g7 g8 ?_
  obtain ⟨g9, T⟩ := T
  exact R_call1 (Dat dd_L_law_c1 32 rfl) rfl g9 rfl rfl rfl rfl rfl T
theorem t_L_law_303 {h : Hp} {P : Value → Hp → Prop} {a3 s0 : Int} {a0 : Nat} (T : (tg h a0 = 20 ∨ tg h a0 = 30) ∧ ((ln h a0 : Int) ≤ 2147483648) ∧ (0 ≤ (a3 + 1)) ∧ ((a3 + 1) < ln h a0) ∧ (tg h 400 = 13) ∧ R 143 0 [.ref 400, .int (I (iv h a0 (a3 + 1)))] [] h (fun v h2 => R 208 312 [.ref a0, .ref 0, .ref 400, .int (I a3)] (v :: [.int (I s0)]) h2 P)) : R 208 303 [.ref a0, .ref 0, .ref 400, .int (I a3)] [.int (I s0)] h P := by
  refine R_aload_n (Dat dd_L_law_c1 43 rfl) rfl rfl ?_
  refine R_aload_n (Dat dd_L_law_c1 44 rfl) rfl rfl ?_
  refine R_iload_n (Dat dd_L_law_c1 45 rfl) rfl ?_
  refine R_iconst (Dat dd_L_law_c1 46 rfl) ?_
  refine R_iadd (Dat dd_L_law_c1 47 rfl) ?_
  obtain ⟨g1, T⟩ := T
  obtain ⟨g2, T⟩ := T
  obtain ⟨g3, T⟩ := T
  obtain ⟨g4, T⟩ := T
  refine R_iaload (Dat dd_L_law_c1 48 rfl) g1 g2 g3 g4 ?_
  obtain ⟨g5, T⟩ := T
  exact R_call1 (Dat dd_L_law_c1 49 rfl) rfl g5 rfl rfl rfl rfl rfl T
theorem t_L_law_321 {h : Hp} {P : Value → Hp → Prop} {a3 s0 : Int} {a0 : Nat} (T : (tg h 400 = 13) ∧ R 144 0 [.ref 400] [] h (fun v h2 => R 208 325 [.ref a0, .ref 0, .ref 400, .int (I a3)] (v :: [.int (I s0)]) h2 P)) : R 208 321 [.ref a0, .ref 0, .ref 400, .int (I a3)] [.int (I s0)] h P := by
  refine R_aload_n (Dat dd_L_law_c1 55 rfl) rfl rfl ?_
  obtain ⟨g1, T⟩ := T
  exact R_call1 (Dat dd_L_law_c1 56 rfl) rfl g1 rfl rfl rfl rfl rfl T
theorem t_L_law_339 {h : Hp} {P : Value → Hp → Prop} {a3 s0 : Int} {a0 : Nat} (T : (tg h a0 = 20 ∨ tg h a0 = 30) ∧ ((ln h a0 : Int) ≤ 2147483648) ∧ (0 ≤ (a3 + 1)) ∧ ((a3 + 1) < ln h a0) ∧ (tg h 400 = 13) ∧ R 145 0 [.ref 400, .int (I (iv h a0 (a3 + 1))), .retAddr 0] [] h (fun v h2 => R 208 348 [.ref a0, .ref 0, .ref 400, .int (I a3)] (v :: [.int (I s0)]) h2 P)) : R 208 339 [.ref a0, .ref 0, .ref 400, .int (I a3)] [.int (I s0)] h P := by
  refine R_aload_n (Dat dd_L_law_c2 7 rfl) rfl rfl ?_
  refine R_aload_n (Dat dd_L_law_c2 8 rfl) rfl rfl ?_
  refine R_iload_n (Dat dd_L_law_c2 9 rfl) rfl ?_
  refine R_iconst (Dat dd_L_law_c2 10 rfl) ?_
  refine R_iadd (Dat dd_L_law_c2 11 rfl) ?_
  obtain ⟨g1, T⟩ := T
  obtain ⟨g2, T⟩ := T
  obtain ⟨g3, T⟩ := T
  obtain ⟨g4, T⟩ := T
  refine R_iaload (Dat dd_L_law_c2 12 rfl) g1 g2 g3 g4 ?_
  obtain ⟨g5, T⟩ := T
  exact R_call1 (Dat dd_L_law_c2 13 rfl) rfl g5 rfl rfl rfl rfl rfl T
theorem t_L_law_367 {h : Hp} {P : Value → Hp → Prop} {a3 s0 : Int} {a0 : Nat} (T : (tg h a0 = 20 ∨ tg h a0 = 30) ∧ ((ln h a0 : Int) ≤ 2147483648) ∧ (0 ≤ (a3 + 1)) ∧ ((a3 + 1) < ln h a0) ∧ (tg h a0 = 20 ∨ tg h a0 = 30) ∧ ((ln h a0 : Int) ≤ 2147483648) ∧ (0 ≤ (a3 + 2)) ∧ ((a3 + 2) < ln h a0) ∧ (tg h 400 = 13) ∧ R 147 0 [.ref 400, .int (I (iv h a0 (a3 + 1))), .int (I (iv h a0 (a3 + 2)))] [] h (fun v h2 => R 208 381 [.ref a0, .ref 0, .ref 400, .int (I a3)] (v :: [.int (I s0)]) h2 P)) : R 208 367 [.ref a0, .ref 0, .ref 400, .int (I a3)] [.int (I s0)] h P := by
  refine R_aload_n (Dat dd_L_law_c2 29 rfl) rfl rfl ?_
  refine R_aload_n (Dat dd_L_law_c2 30 rfl) rfl rfl ?_
  refine R_iload_n (Dat dd_L_law_c2 31 rfl) rfl ?_
  refine R_iconst (Dat dd_L_law_c2 32 rfl) ?_
  refine R_iadd (Dat dd_L_law_c2 33 rfl) ?_
  obtain ⟨g1, T⟩ := T
  obtain ⟨g2, T⟩ := T
  obtain ⟨g3, T⟩ := T
  obtain ⟨g4, T⟩ := T
  refine R_iaload (Dat dd_L_law_c2 34 rfl) g1 g2 g3 g4 ?_
  refine R_aload_n (Dat dd_L_law_c2 35 rfl) rfl rfl ?_
  refine R_iload_n (Dat dd_L_law_c2 36 rfl) rfl ?_
  refine R_iconst (Dat dd_L_law_c2 37 rfl) ?_
  refine R_iadd (Dat dd_L_law_c2 38 rfl) ?_
  obtain ⟨g5, T⟩ := T
  obtain ⟨g6, T⟩ := T
  obtain ⟨g7, T⟩ := T
  obtain ⟨g8, T⟩ := T
  refine R_iaload (Dat dd_L_law_c2 39 rfl) g5 g6 g7 g8 ?_
  obtain ⟨g9, T⟩ := T
  exact R_call1 (Dat dd_L_law_c2 40 rfl) rfl g9 rfl rfl rfl rfl rfl T
theorem t_L_law_410 {h : Hp} {P : Value → Hp → Prop} {a3 s0 : Int} {a0 : Nat} (T : (tg h a0 = 20 ∨ tg h a0 = 30) ∧ ((ln h a0 : Int) ≤ 2147483648) ∧ (0 ≤ (a3 + 1)) ∧ ((a3 + 1) < ln h a0) ∧ (tg h a0 = 20 ∨ tg h a0 = 30) ∧ ((ln h a0 : Int) ≤ 2147483648) ∧ (0 ≤ (a3 + 2)) ∧ ((a3 + 2) < ln h a0) ∧ (tg h a0 = 20 ∨ tg h a0 = 30) ∧ ((ln h a0 : Int) ≤ 2147483648) ∧ (0 ≤ (a3 + 3)) ∧ ((a3 + 3) < ln h a0) ∧ (tg h a0 = 20 ∨ tg h a0 = 30) ∧ ((ln h a0 : Int) ≤ 2147483648) ∧ (0 ≤ (a3 + 4)) ∧ ((a3 + 4) < ln h a0) ∧ (tg h 400 = 13) ∧ R 148 0 [.ref 400, .int (I (iv h a0 (a3 + 1))), .int (I (iv h a0 (a3 + 2))), .int (I (iv h a0 (a3 + 3))), .int (I (iv h a0 (a3 + 4))), .retAddr 0, .retAddr 0, .retAddr 0] [] h (fun v h2 => R 208 434 [.ref a0, .ref 0, .ref 400, .int (I a3)] (v :: [.int (I s0)]) h2 P)) : R 208 410 [.ref a0, .ref 0, .ref 400, .int (I a3)] [.int (I s0)] h P := by
  refine R_aload_n (Dat dd_L_law_c3 6 rfl) rfl rfl ?_
  refine R_aload_n (Dat dd_L_law_c3 7 rfl) rfl rfl ?_
  refine R_iload_n (Dat dd_L_law_c3 8 rfl) rfl ?_
  refine R_iconst (Dat dd_L_law_c3 9 rfl) ?_
  refine R_iadd (Dat dd_L_law_c3 10 rfl) ?_
  obtain ⟨g1, T⟩ := T
  obtain ⟨g2, T⟩ := T
  obtain ⟨g3, T⟩ := T
  obtain ⟨g4, T⟩ := T
  refine R_iaload (Dat dd_L_law_c3 11 rfl) g1 g2 g3 g4 ?_
  refine R_aload_n (Dat dd_L_law_c3 12 rfl) rfl rfl ?_
  refine R_iload_n (Dat dd_L_law_c3 13 rfl) rfl ?_
  refine R_iconst (Dat dd_L_law_c3 14 rfl) ?_
  refine R_iadd (Dat dd_L_law_c3 15 rfl) ?_
  obtain ⟨g5, T⟩ := T
  obtain ⟨g6, T⟩ := T
  obtain ⟨g7, T⟩ := T
  obtain ⟨g8, T⟩ := T
  refine R_iaload (Dat dd_L_law_c3 16 rfl) g5 g6 g7 g8 ?_
  refine R_aload_n (Dat dd_L_law_c3 17 rfl) rfl rfl ?_
  refine R_iload_n (Dat dd_L_law_c3 18 rfl) rfl ?_
  refine R_iconst (Dat dd_L_law_c3 19 rfl) ?_
  refine R_iadd (Dat dd_L_law_c3 20 rfl) ?_
  obtain ⟨g9, T⟩ := T
  obtain ⟨g10, T⟩ := T
  obtain ⟨g11, T⟩ := T
  obtain ⟨g12, T⟩ := T
  refine R_iaload (Dat dd_L_law_c3 21 rfl) g9 g10 g11 g12 ?_
  refine R_aload_n (Dat dd_L_law_c3 22 rfl) rfl rfl ?_
  refine R_iload_n (Dat dd_L_law_c3 23 rfl) rfl ?_
  refine R_iconst (Dat dd_L_law_c3 24 rfl) ?_
  refine R_iadd (Dat dd_L_law_c3 25 rfl) ?_
  obtain ⟨g13, T⟩ := T
  obtain ⟨g14, T⟩ := T
  obtain ⟨g15, T⟩ := T
  obtain ⟨g16, T⟩ := T
  refine R_iaload (Dat dd_L_law_c3 26 rfl) g13 g14 g15 g16 ?_
  obtain ⟨g17, T⟩ := T
  exact R_call1 (Dat dd_L_law_c3 27 rfl) rfl g17 rfl rfl rfl rfl rfl T
theorem t_L_law_458 {h : Hp} {P : Value → Hp → Prop} {a3 s0 : Int} {a0 : Nat} (T : (tg h a0 = 20 ∨ tg h a0 = 30) ∧ ((ln h a0 : Int) ≤ 2147483648) ∧ (0 ≤ (a3 + 1)) ∧ ((a3 + 1) < ln h a0) ∧ (tg h a0 = 20 ∨ tg h a0 = 30) ∧ ((ln h a0 : Int) ≤ 2147483648) ∧ (0 ≤ (a3 + 2)) ∧ ((a3 + 2) < ln h a0) ∧ (tg h a0 = 20 ∨ tg h a0 = 30) ∧ ((ln h a0 : Int) ≤ 2147483648) ∧ (0 ≤ (a3 + 3)) ∧ ((a3 + 3) < ln h a0) ∧ (tg h 400 = 13) ∧ R 151 0 [.ref 400, .int (I (iv h a0 (a3 + 1))), .int (I (iv h a0 (a3 + 2))), .int (I (iv h a0 (a3 + 3)))] [] h (fun v h2 => R 208 477 [.ref a0, .ref 0, .ref 400, .int (I a3)] (v :: [.int (I s0)]) h2 P)) : R 208 458 [.ref a0, .ref 0, .ref 400, .int (I a3)] [.int (I s0)] h P := by
  refine R_aload_n (Dat dd_L_law_c3 48 rfl) rfl rfl ?_
  refine R_aload_n (Dat dd_L_law_c3 49 rfl) rfl rfl ?_
  refine R_iload_n (Dat dd_L_law_c3 50 rfl) rfl ?_
  refine R_iconst (Dat dd_L_law_c3 51 rfl) ?_
  refine R_iadd (Dat dd_L_law_c3 52 rfl) ?_
  obtain ⟨g1, T⟩ := T
  obtain ⟨g2, T⟩ := T
  obtain ⟨g3, T⟩ := T
  obtain ⟨g4, T⟩ := T
  refine R_iaload (Dat dd_L_law_c3 53 rfl) g1 g2 g3 g4 ?_
  refine R_aload_n (Dat dd_L_law_c3 54 rfl) rfl rfl ?_
  refine R_iload_n (Dat dd_L_law_c3 55 rfl) rfl ?_
  refine R_iconst (Dat dd_L_law_c3 56 rfl) ?_
  refine R_iadd (Dat dd_L_law_c3 57 rfl) ?_
  obtain ⟨g5, T⟩ := T
  obtain ⟨g6, T⟩ := T
  obtain ⟨g7, T⟩ := T
  obtain ⟨g8, T⟩ := T
  refine R_iaload (Dat dd_L_law_c3 58 rfl) g5 g6 g7 g8 ?_
  refine R_aload_n (Dat dd_L_law_c3 59 rfl) rfl rfl ?_
  refine R_iload_n (Dat dd_L_law_c4 0 rfl) rfl ?_
  refine R_iconst (Dat dd_L_law_c4 1 rfl) ?_
  refine R_iadd (Dat dd_L_law_c4 2 rfl) ?_
  obtain ⟨g9, T⟩ := T
  obtain ⟨g10, T⟩ := T
  obtain ⟨g11, T⟩ := T
  obtain ⟨g12, T⟩ := T
  refine R_iaload (Dat dd_L_law_c4 3 rfl) g9 g10 g11 g12 ?_
  obtain ⟨g13, T⟩ := T
  exact R_call1 (Dat dd_L_law_c4 4 rfl) rfl g13 rfl rfl rfl rfl rfl T
theorem t_L_law_491 {h : Hp} {P : Value → Hp → Prop} {a3 s0 : Int} {a0 : Nat} (T : (tg h a0 = 20 ∨ tg h a0 = 30) ∧ ((ln h a0 : Int) ≤ 2147483648) ∧ (0 ≤ (a3 + 1)) ∧ ((a3 + 1) < ln h a0) ∧ (tg h 400 = 13) ∧ R 153 0 [.ref 400, .int (I (iv h a0 (a3 + 1))), .retAddr 0] [] h (fun v h2 => R 208 500 [.ref a0, .ref 0, .ref 400, .int (I a3)] (v :: [.int (I s0)]) h2 P)) : R 208 491 [.ref a0, .ref 0, .ref 400, .int (I a3)] [.int (I s0)] h P := by
  refine R_aload_n (Dat dd_L_law_c4 15 rfl) rfl rfl ?_
  refine R_aload_n (Dat dd_L_law_c4 16 rfl) rfl rfl ?_
  refine R_iload_n (Dat dd_L_law_c4 17 rfl) rfl ?_
  refine R_iconst (Dat dd_L_law_c4 18 rfl) ?_
  refine R_iadd (Dat dd_L_law_c4 19 rfl) ?_
  obtain ⟨g1, T⟩ := T
  obtain ⟨g2, T⟩ := T
  obtain ⟨g3, T⟩ := T
  obtain ⟨g4, T⟩ := T
  refine R_iaload (Dat dd_L_law_c4 20 rfl) g1 g2 g3 g4 ?_
  obtain ⟨g5, T⟩ := T
  exact R_call1 (Dat dd_L_law_c4 21 rfl) rfl g5 rfl rfl rfl rfl rfl T
theorem t_L_law_529 {h : Hp} {P : Value → Hp → Prop} {a3 s0 : Int} {a0 : Nat} (T : (tg h a0 = 20 ∨ tg h a0 = 30) ∧ ((ln h a0 : Int) ≤ 2147483648) ∧ (0 ≤ (a3 + 1)) ∧ ((a3 + 1) < ln h a0) ∧ (tg h a0 = 20 ∨ tg h a0 = 30) ∧ ((ln h a0 : Int) ≤ 2147483648) ∧ (0 ≤ (a3 + 2)) ∧ ((a3 + 2) < ln h a0) ∧ (tg h a0 = 20 ∨ tg h a0 = 30) ∧ ((ln h a0 : Int) ≤ 2147483648) ∧ (0 ≤ (a3 + 3)) ∧ ((a3 + 3) < ln h a0) ∧ (tg h a0 = 20 ∨ tg h a0 = 30) ∧ ((ln h a0 : Int) ≤ 2147483648) ∧ (0 ≤ (a3 + 4)) ∧ ((a3 + 4) < ln h a0) ∧ (tg h 400 = 13) ∧ R 154 0 [.ref 400, .int (I (iv h a0 (a3 + 1))), .int (I (iv h a0 (a3 + 2))), .int (I (iv h a0 (a3 + 3))), .int (I (iv h a0 (a3 + 4)))] [] h (fun v h2 => R 208 553 [.ref a0, .ref 0, .ref 400, .int (I a3)] (v :: [.int (I s0)]) h2 P)) : R 208 529 [.ref a0, .ref 0, .ref 400, .int (I a3)] [.int (I s0)] h P := by
  refine R_aload_n (Dat dd_L_law_c4 47 rfl) rfl rfl ?_
  refine R_aload_n (Dat dd_L_law_c4 48 rfl) rfl rfl ?_
  refine R_iload_n (Dat dd_L_law_c4 49 rfl) rfl ?_
  refine R_iconst (Dat dd_L_law_c4 50 rfl) ?_
  refine R_iadd (Dat dd_L_law_c4 51 rfl) ?_
  obtain ⟨g1, T⟩ := T
  obtain ⟨g2, T⟩ := T
  obtain ⟨g3, T⟩ := T
  obtain ⟨g4, T⟩ := T
  refine R_iaload (Dat dd_L_law_c4 52 rfl) g1 g2 g3 g4 ?_
  refine R_aload_n (Dat dd_L_law_c4 53 rfl) rfl rfl ?_
  refine R_iload_n (Dat dd_L_law_c4 54 rfl) rfl ?_
  refine R_iconst (Dat dd_L_law_c4 55 rfl) ?_
  refine R_iadd (Dat dd_L_law_c4 56 rfl) ?_
  obtain ⟨g5, T⟩ := T
  obtain ⟨g6, T⟩ := T
  obtain ⟨g7, T⟩ := T
  obtain ⟨g8, T⟩ := T
  refine R_iaload (Dat dd_L_law_c4 57 rfl) g5 g6 g7 g8 ?_
  refine R_aload_n (Dat dd_L_law_c4 58 rfl) rfl rfl ?_
  refine R_iload_n (Dat dd_L_law_c4 59 rfl) rfl ?_
  refine R_iconst (Dat dd_L_law_c5 0 rfl) ?_
  refine R_iadd (Dat dd_L_law_c5 1 rfl) ?_
  obtain ⟨g9, T⟩ := T
  obtain ⟨g10, T⟩ := T
  obtain ⟨g11, T⟩ := T
  obtain ⟨g12, T⟩ := T
  refine R_iaload (Dat dd_L_law_c5 2 rfl) g9 g10 g11 g12 ?_
  refine R_aload_n (Dat dd_L_law_c5 3 rfl) rfl rfl ?_
  refine R_iload_n (Dat dd_L_law_c5 4 rfl) rfl ?_
  refine R_iconst (Dat dd_L_law_c5 5 rfl) ?_
  refine R_iadd (Dat dd_L_law_c5 6 rfl) ?_
  obtain ⟨g13, T⟩ := T
  obtain ⟨g14, T⟩ := T
  obtain ⟨g15, T⟩ := T
  obtain ⟨g16, T⟩ := T
  refine R_iaload (Dat dd_L_law_c5 7 rfl) g13 g14 g15 g16 ?_
  obtain ⟨g17, T⟩ := T
  exact R_call1 (Dat dd_L_law_c5 8 rfl) rfl g17 rfl rfl rfl rfl rfl T
theorem t_L_law_572 {h : Hp} {P : Value → Hp → Prop} {a3 s0 : Int} {a0 : Nat} (T : (tg h a0 = 20 ∨ tg h a0 = 30) ∧ ((ln h a0 : Int) ≤ 2147483648) ∧ (0 ≤ (a3 + 1)) ∧ ((a3 + 1) < ln h a0) ∧ (tg h a0 = 20 ∨ tg h a0 = 30) ∧ ((ln h a0 : Int) ≤ 2147483648) ∧ (0 ≤ (a3 + 2)) ∧ ((a3 + 2) < ln h a0) ∧ (tg h 400 = 13) ∧ R 158 0 [.ref 400, .int (I (iv h a0 (a3 + 1))), .int (I (iv h a0 (a3 + 2))), .retAddr 0] [] h (fun v h2 => R 208 586 [.ref a0, .ref 0, .ref 400, .int (I a3)] (v :: [.int (I s0)]) h2 P)) : R 208 572 [.ref a0, .ref 0, .ref 400, .int (I a3)] [.int (I s0)] h P := by
  refine R_aload_n (Dat dd_L_law_c5 24 rfl) rfl rfl ?_
  refine R_aload_n (Dat dd_L_law_c5 25 rfl) rfl rfl ?_
  refine R_iload_n (Dat dd_L_law_c5 26 rfl) rfl ?_
  refine R_iconst (Dat dd_L_law_c5 27 rfl) ?_
  refine R_iadd (Dat dd_L_law_c5 28 rfl) ?_
  obtain ⟨g1, T⟩ := T
  obtain ⟨g2, T⟩ := T
  obtain ⟨g3, T⟩ := T
  obtain ⟨g4, T⟩ := T
  refine R_iaload (Dat dd_L_law_c5 29 rfl) g1 g2 g3 g4 ?_
  refine R_aload_n (Dat dd_L_law_c5 30 rfl) rfl rfl ?_
  refine R_iload_n (Dat dd_L_law_c5 31 rfl) rfl ?_
  refine R_iconst (Dat dd_L_law_c5 32 rfl) ?_
  refine R_iadd (Dat dd_L_law_c5 33 rfl) ?_
  obtain ⟨g5, T⟩ := T
  obtain ⟨g6, T⟩ := T
  obtain ⟨g7, T⟩ := T
  obtain ⟨g8, T⟩ := T
  refine R_iaload (Dat dd_L_law_c5 34 rfl) g5 g6 g7 g8 ?_
  obtain ⟨g9, T⟩ := T
  exact R_call1 (Dat dd_L_law_c5 35 rfl) rfl g9 rfl rfl rfl rfl rfl T
theorem t_L_law_615 {h : Hp} {P : Value → Hp → Prop} {a3 s0 : Int} {a0 : Nat} (T : (tg h a0 = 20 ∨ tg h a0 = 30) ∧ ((ln h a0 : Int) ≤ 2147483648) ∧ (0 ≤ (a3 + 1)) ∧ ((a3 + 1) < ln h a0) ∧ (tg h a0 = 20 ∨ tg h a0 = 30) ∧ ((ln h a0 : Int) ≤ 2147483648) ∧ (0 ≤ (a3 + 2)) ∧ ((a3 + 2) < ln h a0) ∧ (tg h a0 = 20 ∨ tg h a0 = 30) ∧ ((ln h a0 : Int) ≤ 2147483648) ∧ (0 ≤ (a3 + 3)) ∧ ((a3 + 3) < ln h a0) ∧ (tg h a0 = 20 ∨ tg h a0 = 30) ∧ ((ln h a0 : Int) ≤ 2147483648) ∧ (0 ≤ (a3 + 4)) ∧ ((a3 + 4) < ln h a0) ∧ (tg h 400 = 13) ∧ R 162 0 [.ref 400, .int (I (iv h a0 (a3 + 1))), .int (I (iv h a0 (a3 + 2))), .int (I (iv h a0 (a3 + 3))), .int (I (iv h a0 (a3 + 4))), .retAddr 0, .retAddr 0, .retAddr 0] [] h (fun v h2 => R 208 639 [.ref a0, .ref 0, .ref 400, .int (I a3)] (v :: [.int (I s0)]) h2 P)) : R 208 615 [.ref a0, .ref 0, .ref 400, .int (I a3)] [.int (I s0)] h P := by
  refine R_aload_n (Dat dd_L_law_c6 1 rfl) rfl rfl ?_
  refine R_aload_n (Dat dd_L_law_c6 2 rfl) rfl rfl ?_
  refine R_iload_n (Dat dd_L_law_c6 3 rfl) rfl ?_
  refine R_iconst (Dat dd_L_law_c6 4 rfl) ?_
  refine R_iadd (Dat dd_L_law_c6 5 rfl) ?_
  obtain ⟨g1, T⟩ := T
  obtain ⟨g2, T⟩ := T
  obtain ⟨g3, T⟩ := T
  obtain ⟨g4, T⟩ := T
  refine R_iaload (Dat dd_L_law_c6 6 rfl) g1 g2 g3 g4 ?_
  refine R_aload_n (Dat dd_L_law_c6 7 rfl) rfl rfl ?_
  refine R_iload_n (Dat dd_L_law_c6 8 rfl) rfl ?_
  refine R_iconst (Dat dd_L_law_c6 9 rfl) ?_
  refine R_iadd (Dat dd_L_law_c6 10 rfl) ?_
  obtain ⟨g5, T⟩ := T
  obtain ⟨g6, T⟩ := T
  obtain ⟨g7, T⟩ := T
  obtain ⟨g8, T⟩ := T
  refine R_iaload (Dat dd_L_law_c6 11 rfl) g5 g6 g7 g8 ?_
  refine R_aload_n (Dat dd_L_law_c6 12 rfl) rfl rfl ?_
  refine R_iload_n (Dat dd_L_law_c6 13 rfl) rfl ?_
  refine R_iconst (Dat dd_L_law_c6 14 rfl) ?_
  refine R_iadd (Dat dd_L_law_c6 15 rfl) ?_
  obtain ⟨g9, T⟩ := T
  obtain ⟨g10, T⟩ := T
  obtain ⟨g11, T⟩ := T
  obtain ⟨g12, T⟩ := T
  refine R_iaload (Dat dd_L_law_c6 16 rfl) g9 g10 g11 g12 ?_
  refine R_aload_n (Dat dd_L_law_c6 17 rfl) rfl rfl ?_
  refine R_iload_n (Dat dd_L_law_c6 18 rfl) rfl ?_
  refine R_iconst (Dat dd_L_law_c6 19 rfl) ?_
  refine R_iadd (Dat dd_L_law_c6 20 rfl) ?_
  obtain ⟨g13, T⟩ := T
  obtain ⟨g14, T⟩ := T
  obtain ⟨g15, T⟩ := T
  obtain ⟨g16, T⟩ := T
  refine R_iaload (Dat dd_L_law_c6 21 rfl) g13 g14 g15 g16 ?_
  obtain ⟨g17, T⟩ := T
  exact R_call1 (Dat dd_L_law_c6 22 rfl) rfl g17 rfl rfl rfl rfl rfl T
theorem t_L_law_648 {h : Hp} {P : Value → Hp → Prop} {a3 s0 : Int} {a0 : Nat} (T : (tg h 400 = 13) ∧ R 164 0 [.ref 400] [] h (fun v h2 => R 208 652 [.ref a0, .ref 0, .ref 400, .int (I a3)] (v :: [.int (I s0)]) h2 P)) : R 208 648 [.ref a0, .ref 0, .ref 400, .int (I a3)] [.int (I s0)] h P := by
  refine R_aload_n (Dat dd_L_law_c6 28 rfl) rfl rfl ?_
  obtain ⟨g1, T⟩ := T
  exact R_call1 (Dat dd_L_law_c6 29 rfl) rfl g1 rfl rfl rfl rfl rfl T
theorem t_L_law_661 {h : Hp} {P : Value → Hp → Prop} {a3 s0 : Int} {a0 : Nat} (T : (tg h 400 = 13) ∧ R 166 0 [.ref 400] [] h (fun v h2 => R 208 665 [.ref a0, .ref 0, .ref 400, .int (I a3)] (v :: [.int (I s0)]) h2 P)) : R 208 661 [.ref a0, .ref 0, .ref 400, .int (I a3)] [.int (I s0)] h P := by
  refine R_aload_n (Dat dd_L_law_c6 35 rfl) rfl rfl ?_
  obtain ⟨g1, T⟩ := T
  exact R_call1 (Dat dd_L_law_c6 36 rfl) rfl g1 rfl rfl rfl rfl rfl T
theorem t_L_law_684 {h : Hp} {P : Value → Hp → Prop} {a3 s0 : Int} {a0 : Nat} (T : (tg h a0 = 20 ∨ tg h a0 = 30) ∧ ((ln h a0 : Int) ≤ 2147483648) ∧ (0 ≤ (a3 + 1)) ∧ ((a3 + 1) < ln h a0) ∧ (tg h a0 = 20 ∨ tg h a0 = 30) ∧ ((ln h a0 : Int) ≤ 2147483648) ∧ (0 ≤ (a3 + 2)) ∧ ((a3 + 2) < ln h a0) ∧ (tg h 400 = 13) ∧ R 168 0 [.ref 400, .int (I (iv h a0 (a3 + 1))), .int (I (iv h a0 (a3 + 2)))] [] h (fun v h2 => R 208 698 [.ref a0, .ref 0, .ref 400, .int (I a3)] (v :: [.int (I s0)]) h2 P)) : R 208 684 [.ref a0, .ref 0, .ref 400, .int (I a3)] [.int (I s0)] h P := by
  refine R_aload_n (Dat dd_L_law_c6 52 rfl) rfl rfl ?_
  refine R_aload_n (Dat dd_L_law_c6 53 rfl) rfl rfl ?_
  refine R_iload_n (Dat dd_L_law_c6 54 rfl) rfl ?_
  refine R_iconst (Dat dd_L_law_c6 55 rfl) ?_
  refine R_iadd (Dat dd_L_law_c6 56 rfl) ?_
  obtain ⟨g1, T⟩ := T
  obtain ⟨g2, T⟩ := T
  obtain ⟨g3, T⟩ := T
  obtain ⟨g4, T⟩ := T
  refine R_iaload (Dat dd_L_law_c6 57 rfl) g1 g2 g3 g4 ?_
  refine R_aload_n (Dat dd_L_law_c6 58 rfl) rfl rfl ?_
  refine R_iload_n (Dat dd_L_law_c6 59 rfl) rfl ?_
  refine R_iconst (Dat dd_L_law_c7 0 rfl) ?_
  refine R_iadd (Dat dd_L_law_c7 1 rfl) ?_
  obtain ⟨g5, T⟩ := T
  obtain ⟨g6, T⟩ := T
  obtain ⟨g7, T⟩ := T
  obtain ⟨g8, T⟩ := T
  refine R_iaload (Dat dd_L_law_c7 2 rfl) g5 g6 g7 g8 ?_
  obtain ⟨g9, T⟩ := T
  exact R_call1 (Dat dd_L_law_c7 3 rfl) rfl g9 rfl rfl rfl rfl rfl T
theorem t_L_law_722 {h : Hp} {P : Value → Hp → Prop} {a3 s0 : Int} {a0 : Nat} (T : (tg h a0 = 20 ∨ tg h a0 = 30) ∧ ((ln h a0 : Int) ≤ 2147483648) ∧ (0 ≤ (a3 + 1)) ∧ ((a3 + 1) < ln h a0) ∧ (tg h a0 = 20 ∨ tg h a0 = 30) ∧ ((ln h a0 : Int) ≤ 2147483648) ∧ (0 ≤ (a3 + 2)) ∧ ((a3 + 2) < ln h a0) ∧ (tg h a0 = 20 ∨ tg h a0 = 30) ∧ ((ln h a0 : Int) ≤ 2147483648) ∧ (0 ≤ (a3 + 3)) ∧ ((a3 + 3) < ln h a0) ∧ (tg h 400 = 13) ∧ R 170 0 [.ref 400, .int (I (iv h a0 (a3 + 1))), .int (I (iv h a0 (a3 + 2))), .int (I (iv h a0 (a3 + 3))), .retAddr 0, .retAddr 0] [] h (fun v h2 => R 208 741 [.ref a0, .ref 0, .ref 400, .int (I a3)] (v :: [.int (I s0)]) h2 P)) : R 208 722 [.ref a0, .ref 0, .ref 400, .int (I a3)] [.int (I s0)] h P := by
  refine R_aload_n (Dat dd_L_law_c7 24 rfl) rfl rfl ?_
  refine R_aload_n (Dat dd_L_law_c7 25 rfl) rfl rfl ?_
  refine R_iload_n (Dat dd_L_law_c7 26 rfl) rfl ?_
  refine R_iconst (Dat dd_L_law_c7 27 rfl) ?_
  refine R_iadd (Dat dd_L_law_c7 28 rfl) ?_
  obtain ⟨g1, T⟩ := T
  obtain ⟨g2, T⟩ := T
  obtain ⟨g3, T⟩ := T
  obtain ⟨g4, T⟩ := T
  refine R_iaload (Dat dd_L_law_c7 29 rfl) g1 g2 g3 g4 ?_
  refine R_aload_n (Dat dd_L_law_c7 30 rfl) rfl rfl ?_
  refine R_iload_n (Dat dd_L_law_c7 31 rfl) rfl ?_
  refine R_iconst (Dat dd_L_law_c7 32 rfl) ?_
  refine R_iadd (Dat dd_L_law_c7 33 rfl) ?_
  obtain ⟨g5, T⟩ := T
  obtain ⟨g6, T⟩ := T
  obtain ⟨g7, T⟩ := T
  obtain ⟨g8, T⟩ := T
  refine R_iaload (Dat dd_L_law_c7 34 rfl) g5 g6 g7 g8 ?_
  refine R_aload_n (Dat dd_L_law_c7 35 rfl) rfl rfl ?_
  refine R_iload_n (Dat dd_L_law_c7 36 rfl) rfl ?_
  refine R_iconst (Dat dd_L_law_c7 37 rfl) ?_
  refine R_iadd (Dat dd_L_law_c7 38 rfl) ?_
  obtain ⟨g9, T⟩ := T
  obtain ⟨g10, T⟩ := T
  obtain ⟨g11, T⟩ := T
  obtain ⟨g12, T⟩ := T
  refine R_iaload (Dat dd_L_law_c7 39 rfl) g9 g10 g11 g12 ?_
  obtain ⟨g13, T⟩ := T
  exact R_call1 (Dat dd_L_law_c7 40 rfl) rfl g13 rfl rfl rfl rfl rfl T
theorem t_L_law_765 {h : Hp} {P : Value → Hp → Prop} {a3 s0 : Int} {a0 : Nat} (T : (tg h a0 = 20 ∨ tg h a0 = 30) ∧ ((ln h a0 : Int) ≤ 2147483648) ∧ (0 ≤ (a3 + 1)) ∧ ((a3 + 1) < ln h a0) ∧ (tg h a0 = 20 ∨ tg h a0 = 30) ∧ ((ln h a0 : Int) ≤ 2147483648) ∧ (0 ≤ (a3 + 2)) ∧ ((a3 + 2) < ln h a0) ∧ (tg h a0 = 20 ∨ tg h a0 = 30) ∧ ((ln h a0 : Int) ≤ 2147483648) ∧ (0 ≤ (a3 + 3)) ∧ ((a3 + 3) < ln h a0) ∧ (tg h 400 = 13) ∧ R 172 0 [.ref 400, .int (I (iv h a0 (a3 + 1))), .int (I (iv h a0 (a3 + 2))), .int (I (iv h a0 (a3 + 3))), .retAddr 0] [] h (fun v h2 => R 208 784 [.ref a0, .ref 0, .ref 400, .int (I a3)] (v :: [.int (I s0)]) h2 P)) : R 208 765 [.ref a0, .ref 0, .ref 400, .int (I a3)] [.int (I s0)] h P := by
  refine R_aload_n (Dat dd_L_law_c8 1 rfl) rfl rfl ?_
  refine R_aload_n (Dat dd_L_law_c8 2 rfl) rfl rfl ?_
  refine R_iload_n (Dat dd_L_law_c8 3 rfl) rfl ?_
  refine R_iconst (Dat dd_L_law_c8 4 rfl) ?_
  refine R_iadd (Dat dd_L_law_c8 5 rfl) ?_
  obtain ⟨g1, T⟩ := T
  obtain ⟨g2, T⟩ := T
  obtain ⟨g3, T⟩ := T
  obtain ⟨g4, T⟩ := T
  refine R_iaload (Dat dd_L_law_c8 6 rfl) g1 g2 g3 g4 ?_
  refine R_aload_n (Dat dd_L_law_c8 7 rfl) rfl rfl ?_
  refine R_iload_n (Dat dd_L_law_c8 8 rfl) rfl ?_
  refine R_iconst (Dat dd_L_law_c8 9 rfl) ?_
  refine R_iadd (Dat dd_L_law_c8 10 rfl) ?_
  obtain ⟨g5, T⟩ := T
  obtain ⟨g6, T⟩ := T
  obtain ⟨g7, T⟩ := T
  obtain ⟨g8, T⟩ := T
  refine R_iaload (Dat dd_L_law_c8 11 rfl) g5 g6 g7 g8 ?_
  refine R_aload_n (Dat dd_L_law_c8 12 rfl) rfl rfl ?_
  refine R_iload_n (Dat dd_L_law_c8 13 rfl) rfl ?_
  refine R_iconst (Dat dd_L_law_c8 14 rfl) ?_
  refine R_iadd (Dat dd_L_law_c8 15 rfl) ?_
  obtain ⟨g9, T⟩ := T
  obtain ⟨g10, T⟩ := T
  obtain ⟨g11, T⟩ := T
  obtain ⟨g12, T⟩ := T
  refine R_iaload (Dat dd_L_law_c8 16 rfl) g9 g10 g11 g12 ?_
  obtain ⟨g13, T⟩ := T
  exact R_call1 (Dat dd_L_law_c8 17 rfl) rfl g13 rfl rfl rfl rfl rfl T
theorem t_L_law_808 {h : Hp} {P : Value → Hp → Prop} {a3 s0 : Int} {a0 : Nat} (T : (tg h a0 = 20 ∨ tg h a0 = 30) ∧ ((ln h a0 : Int) ≤ 2147483648) ∧ (0 ≤ (a3 + 1)) ∧ ((a3 + 1) < ln h a0) ∧ (tg h a0 = 20 ∨ tg h a0 = 30) ∧ ((ln h a0 : Int) ≤ 2147483648) ∧ (0 ≤ (a3 + 2)) ∧ ((a3 + 2) < ln h a0) ∧ (tg h a0 = 20 ∨ tg h a0 = 30) ∧ ((ln h a0 : Int) ≤ 2147483648) ∧ (0 ≤ (a3 + 3)) ∧ ((a3 + 3) < ln h a0) ∧ (tg h 400 = 13) ∧ R 176 0 [.ref 400, .int (I (iv h a0 (a3 + 1))), .int (I (iv h a0 (a3 + 2))), .int (I (iv h a0 (a3 + 3))), .retAddr 0, .retAddr 0, .retAddr 0, .retAddr 0, .retAddr 0, .retAddr 0, .retAddr 0] [] h (fun v h2 => R 208 827 [.ref a0, .ref 0, .ref 400, .int (I a3)] (v :: [.int (I s0)]) h2 P)) : R 208 808 [.ref a0, .ref 0, .ref 400, .int (I a3)] [.int (I s0)] h P := by
  refine R_aload_n (Dat dd_L_law_c8 38 rfl) rfl rfl ?_
  refine R_aload_n (Dat dd_L_law_c8 39 rfl) rfl rfl ?_
  refine R_iload_n (Dat dd_L_law_c8 40 rfl) rfl ?_
  refine R_iconst (Dat dd_L_law_c8 41 rfl) ?_
  refine R_iadd (Dat dd_L_law_c8 42 rfl) ?_
  obtain ⟨g1, T⟩ := T
  obtain ⟨g2, T⟩ := T
  obtain ⟨g3, T⟩ := T
  obtain ⟨g4, T⟩ := T
  refine R_iaload (Dat dd_L_law_c8 43 rfl) g1 g2 g3 g4 ?_
  refine R_aload_n (Dat dd_L_law_c8 44 rfl) rfl rfl ?_
  refine R_iload_n (Dat dd_L_law_c8 45 rfl) rfl ?_
  refine R_iconst (Dat dd_L_law_c8 46 rfl) ?_
  refine R_iadd (Dat dd_L_law_c8 47 rfl) ?_
  obtain ⟨g5, T⟩ := T
  obtain ⟨g6, T⟩ := T
  obtain ⟨g7, T⟩ := T
  obtain ⟨g8, T⟩ := T
  refine R_iaload (Dat dd_L_law_c8 48 rfl) g5 g6 g7 g8 ?_
  refine R_aload_n (Dat dd_L_law_c8 49 rfl) rfl rfl ?_
  refine R_iload_n (Dat dd_L_law_c8 50 rfl) rfl ?_
  refine R_iconst (Dat dd_L_law_c8 51 rfl) ?_
  refine R_iadd (Dat dd_L_law_c8 52 rfl) ?_
  obtain ⟨g9, T⟩ := T
  obtain ⟨g10, T⟩ := T
  obtain ⟨g11, T⟩ := T
  obtain ⟨g12, T⟩ := T
  refine R_iaload (Dat dd_L_law_c8 53 rfl) g9 g10 g11 g12 ?_
  obtain ⟨g13, T⟩ := T
  exact R_call1 (Dat dd_L_law_c8 54 rfl) rfl g13 rfl rfl rfl rfl rfl T
theorem t_L_law_846 {h : Hp} {P : Value → Hp → Prop} {a3 s0 : Int} {a0 : Nat} (T : (tg h a0 = 20 ∨ tg h a0 = 30) ∧ ((ln h a0 : Int) ≤ 2147483648) ∧ (0 ≤ (a3 + 1)) ∧ ((a3 + 1) < ln h a0) ∧ (tg h a0 = 20 ∨ tg h a0 = 30) ∧ ((ln h a0 : Int) ≤ 2147483648) ∧ (0 ≤ (a3 + 2)) ∧ ((a3 + 2) < ln h a0) ∧ (tg h 400 = 13) ∧ R 177 0 [.ref 400, .int (I (iv h a0 (a3 + 1))), .int (I (iv h a0 (a3 + 2)))] [] h (fun v h2 => R 208 860 [.ref a0, .ref 0, .ref 400, .int (I a3)] (v :: [.int (I s0)]) h2 P)) : R 208 846 [.ref a0, .ref 0, .ref 400, .int (I a3)] [.int (I s0)] h P := by
  refine R_aload_n (Dat dd_L_law_c9 10 rfl) rfl rfl ?_
  refine R_aload_n (Dat dd_L_law_c9 11 rfl) rfl rfl ?_
  refine R_iload_n (Dat dd_L_law_c9 12 rfl) rfl ?_
  refine R_iconst (Dat dd_L_law_c9 13 rfl) ?_
  refine R_iadd (Dat dd_L_law_c9 14 rfl) ?_
  obtain ⟨g1, T⟩ := T
  obtain ⟨g2, T⟩ := T
  obtain ⟨g3, T⟩ := T
  obtain ⟨g4, T⟩ := T
  refine R_iaload (Dat dd_L_law_c9 15 rfl) g1 g2 g3 g4 ?_
  refine R_aload_n (Dat dd_L_law_c9 16 rfl) rfl rfl ?_
  refine R_iload_n (Dat dd_L_law_c9 17 rfl) rfl ?_
  refine R_iconst (Dat dd_L_law_c9 18 rfl) ?_
  refine R_iadd (Dat dd_L_law_c9 19 rfl) ?_
  obtain ⟨g5, T⟩ := T
  obtain ⟨g6, T⟩ := T
  obtain ⟨g7, T⟩ := T
  obtain ⟨g8, T⟩ := T
  refine R_iaload (Dat dd_L_law_c9 20 rfl) g5 g6 g7 g8 ?_
  obtain ⟨g9, T⟩ := T
  exact R_call1 (Dat dd_L_law_c9 21 rfl) rfl g9 rfl rfl rfl rfl rfl T
theorem t_L_law_884 {h : Hp} {P : Value → Hp → Prop} {a3 s0 : Int} {a0 : Nat} (T : (tg h a0 = 20 ∨ tg h a0 = 30) ∧ ((ln h a0 : Int) ≤ 2147483648) ∧ (0 ≤ (a3 + 1)) ∧ ((a3 + 1) < ln h a0) ∧ (tg h a0 = 20 ∨ tg h a0 = 30) ∧ ((ln h a0 : Int) ≤ 2147483648) ∧ (0 ≤ (a3 + 2)) ∧ ((a3 + 2) < ln h a0) ∧ (tg h a0 = 20 ∨ tg h a0 = 30) ∧ ((ln h a0 : Int) ≤ 2147483648) ∧ (0 ≤ (a3 + 3)) ∧ ((a3 + 3) < ln h a0) ∧ (tg h 400 = 13) ∧ R 179 0 [.ref 400, .int (I (iv h a0 (a3 + 1))), .int (I (iv h a0 (a3 + 2))), .int (I (iv h a0 (a3 + 3))), .retAddr 0, .retAddr 0, .retAddr 0, .retAddr 0] [] h (fun v h2 => R 208 903 [.ref a0, .ref 0, .ref 400, .int (I a3)] (v :: [.int (I s0)]) h2 P)) : R 208 884 [.ref a0, .ref 0, .ref 400, .int (I a3)] [.int (I s0)] h P := by
  refine R_aload_n (Dat dd_L_law_c9 42 rfl) rfl rfl ?_
  refine R_aload_n (Dat dd_L_law_c9 43 rfl) rfl rfl ?_
  refine R_iload_n (Dat dd_L_law_c9 44 rfl) rfl ?_
  refine R_iconst (Dat dd_L_law_c9 45 rfl) ?_
  refine R_iadd (Dat dd_L_law_c9 46 rfl) ?_
  obtain ⟨g1, T⟩ := T
  obtain ⟨g2, T⟩ := T
  obtain ⟨g3, T⟩ := T
  obtain ⟨g4, T⟩ := T
  refine R_iaload (Dat dd_L_law_c9 47 rfl) g1 g2 g3 g4 ?_
  refine R_aload_n (Dat dd_L_law_c9 48 rfl) rfl rfl ?_
  refine R_iload_n (Dat dd_L_law_c9 49 rfl) rfl ?_
  refine R_iconst (Dat dd_L_law_c9 50 rfl) ?_
  refine R_iadd (Dat dd_L_law_c9 51 rfl) ?_
  obtain ⟨g5, T⟩ := T
  obtain ⟨g6, T⟩ := T
  obtain ⟨g7, T⟩ := T
  obtain ⟨g8, T⟩ := T
  refine R_iaload (Dat dd_L_law_c9 52 rfl) g5 g6 g7 g8 ?_
  refine R_aload_n (Dat dd_L_law_c9 53 rfl) rfl rfl ?_
  refine R_iload_n (Dat dd_L_law_c9 54 rfl) rfl ?_
  refine R_iconst (Dat dd_L_law_c9 55 rfl) ?_
  refine R_iadd (Dat dd_L_law_c9 56 rfl) ?_
  obtain ⟨g9, T⟩ := T
  obtain ⟨g10, T⟩ := T
  obtain ⟨g11, T⟩ := T
  obtain ⟨g12, T⟩ := T
  refine R_iaload (Dat dd_L_law_c9 57 rfl) g9 g10 g11 g12 ?_
  obtain ⟨g13, T⟩ := T
  exact R_call1 (Dat dd_L_law_c9 58 rfl) rfl g13 rfl rfl rfl rfl rfl T
theorem t_L_law_927 {h : Hp} {P : Value → Hp → Prop} {a3 s0 : Int} {a0 : Nat} (T : (tg h a0 = 20 ∨ tg h a0 = 30) ∧ ((ln h a0 : Int) ≤ 2147483648) ∧ (0 ≤ (a3 + 1)) ∧ ((a3 + 1) < ln h a0) ∧ (tg h a0 = 20 ∨ tg h a0 = 30) ∧ ((ln h a0 : Int) ≤ 2147483648) ∧ (0 ≤ (a3 + 2)) ∧ ((a3 + 2) < ln h a0) ∧ (tg h a0 = 20 ∨ tg h a0 = 30) ∧ ((ln h a0 : Int) ≤ 2147483648) ∧ (0 ≤ (a3 + 3)) ∧ ((a3 + 3) < ln h a0) ∧ (tg h 400 = 13) ∧ R 183 0 [.ref 400, .int (I (iv h a0 (a3 + 1))), .int (I (iv h a0 (a3 + 2))), .int (I (iv h a0 (a3 + 3)))] [] h (fun v h2 => R 208 946 [.ref a0, .ref 0, .ref 400, .int (I a3)] (v :: [.int (I s0)]) h2 P)) : R 208 927 [.ref a0, .ref 0, .ref 400, .int (I a3)] [.int (I s0)] h P := by
  refine R_aload_n (Dat dd_L_law_c10 19 rfl) rfl rfl ?_
  refine R_aload_n (Dat dd_L_law_c10 20 rfl) rfl rfl ?_
  refine R_iload_n (Dat dd_L_law_c10 21 rfl) rfl ?_
  refine R_iconst (Dat dd_L_law_c10 22 rfl) ?_
  refine R_iadd (Dat dd_L_law_c10 23 rfl) ?_
  obtain ⟨g1, T⟩ := T
  obtain ⟨g2, T⟩ := T
  obtain ⟨g3, T⟩ := T
  obtain ⟨g4, T⟩ := T
  refine R_iaload (Dat dd_L_law_c10 24 rfl) g1 g2 g3 g4 ?_
  refine R_aload_n (Dat dd_L_law_c10 25 rfl) rfl rfl ?_
  refine R_iload_n (Dat dd_L_law_c10 26 rfl) rfl ?_
  refine R_iconst (Dat dd_L_law_c10 27 rfl) ?_
  refine R_iadd (Dat dd_L_law_c10 28 rfl) ?_
  obtain ⟨g5, T⟩ := T
  obtain ⟨g6, T⟩ := T
  obtain ⟨g7, T⟩ := T
  obtain ⟨g8, T⟩ := T
  refine R_iaload (Dat dd_L_law_c10 29 rfl) g5 g6 g7 g8 ?_
  refine R_aload_n (Dat dd_L_law_c10 30 rfl) rfl rfl ?_
  refine R_iload_n (Dat dd_L_law_c10 31 rfl) rfl ?_
  refine R_iconst (Dat dd_L_law_c10 32 rfl) ?_
  refine R_iadd (Dat dd_L_law_c10 33 rfl) ?_
  obtain ⟨g9, T⟩ := T
  obtain ⟨g10, T⟩ := T
  obtain ⟨g11, T⟩ := T
  obtain ⟨g12, T⟩ := T
  refine R_iaload (Dat dd_L_law_c10 34 rfl) g9 g10 g11 g12 ?_
  obtain ⟨g13, T⟩ := T
  exact R_call1 (Dat dd_L_law_c10 35 rfl) rfl g13 rfl rfl rfl rfl rfl T
theorem t_L_law_970 {h : Hp} {P : Value → Hp → Prop} {a3 s0 : Int} {a0 : Nat} (T : (tg h a0 = 20 ∨ tg h a0 = 30) ∧ ((ln h a0 : Int) ≤ 2147483648) ∧ (0 ≤ (a3 + 1)) ∧ ((a3 + 1) < ln h a0) ∧ (tg h a0 = 20 ∨ tg h a0 = 30) ∧ ((ln h a0 : Int) ≤ 2147483648) ∧ (0 ≤ (a3 + 2)) ∧ ((a3 + 2) < ln h a0) ∧ (tg h a0 = 20 ∨ tg h a0 = 30) ∧ ((ln h a0 : Int) ≤ 2147483648) ∧ (0 ≤ (a3 + 3)) ∧ ((a3 + 3) < ln h a0) ∧ (tg h 400 = 13) ∧ R 184 0 [.ref 400, .int (I (iv h a0 (a3 + 1))), .int (I (iv h a0 (a3 + 2))), .int (I (iv h a0 (a3 + 3))), .retAddr 0, .retAddr 0] [] h (fun v h2 => R 208 989 [.ref a0, .ref 0, .ref 400, .int (I a3)] (v :: [.int (I s0)]) h2 P)) : R 208 970 [.ref a0, .ref 0, .ref 400, .int (I a3)] [.int (I s0)] h P := by
  refine R_aload_n (Dat dd_L_law_c10 56 rfl) rfl rfl ?_
  refine R_aload_n (Dat dd_L_law_c10 57 rfl) rfl rfl ?_
  refine R_iload_n (Dat dd_L_law_c10 58 rfl) rfl ?_
  refine R_iconst (Dat dd_L_law_c10 59 rfl) ?_
  refine R_iadd (Dat dd_L_law_c11 0 rfl) ?_
  obtain ⟨g1, T⟩ := T
  obtain ⟨g2, T⟩ := T
  obtain ⟨g3, T⟩ := T
  obtain ⟨g4, T⟩ := T
  refine R_iaload (Dat dd_L_law_c11 1 rfl) g1 g2 g3 g4 ?_
  refine R_aload_n (Dat dd_L_law_c11 2 rfl) rfl rfl ?_
  refine R_iload_n (Dat dd_L_law_c11 3 rfl) rfl ?_
  refine R_iconst (Dat dd_L_law_c11 4 rfl) ?_
  refine R_iadd (Dat dd_L_law_c11 5 rfl) ?_
  obtain ⟨g5, T⟩ := T
  obtain ⟨g6, T⟩ := T
  obtain ⟨g7, T⟩ := T
  obtain ⟨g8, T⟩ := T
  refine R_iaload (Dat dd_L_law_c11 6 rfl) g5 g6 g7 g8 ?_
  refine R_aload_n (Dat dd_L_law_c11 7 rfl) rfl rfl ?_
  refine R_iload_n (Dat dd_L_law_c11 8 rfl) rfl ?_
  refine R_iconst (Dat dd_L_law_c11 9 rfl) ?_
  refine R_iadd (Dat dd_L_law_c11 10 rfl) ?_
  obtain ⟨g9, T⟩ := T
  obtain ⟨g10, T⟩ := T
  obtain ⟨g11, T⟩ := T
  obtain ⟨g12, T⟩ := T
  refine R_iaload (Dat dd_L_law_c11 11 rfl) g9 g10 g11 g12 ?_
  obtain ⟨g13, T⟩ := T
  exact R_call1 (Dat dd_L_law_c11 12 rfl) rfl g13 rfl rfl rfl rfl rfl T
theorem t_L_law_1003 {h : Hp} {P : Value → Hp → Prop} {a3 s0 : Int} {a0 : Nat} (T : (tg h a0 = 20 ∨ tg h a0 = 30) ∧ ((ln h a0 : Int) ≤ 2147483648) ∧ (0 ≤ (a3 + 1)) ∧ ((a3 + 1) < ln h a0) ∧ (tg h 400 = 13) ∧ R 186 0 [.ref 400, .int (I (iv h a0 (a3 + 1))), .retAddr 0, .retAddr 0] [] h (fun v h2 => R 208 1012 [.ref a0, .ref 0, .ref 400, .int (I a3)] (v :: [.int (I s0)]) h2 P)) : R 208 1003 [.ref a0, .ref 0, .ref 400, .int (I a3)] [.int (I s0)] h P := by
  refine R_aload_n (Dat dd_L_law_c11 23 rfl) rfl rfl ?_
  refine R_aload_n (Dat dd_L_law_c11 24 rfl) rfl rfl ?_
  refine R_iload_n (Dat dd_L_law_c11 25 rfl) rfl ?_
  refine R_iconst (Dat dd_L_law_c11 26 rfl) ?_
  refine R_iadd (Dat dd_L_law_c11 27 rfl) ?_
  obtain ⟨g1, T⟩ := T
  obtain ⟨g2, T⟩ := T
  obtain ⟨g3, T⟩ := T
  obtain ⟨g4, T⟩ := T
  refine R_iaload (Dat dd_L_law_c11 28 rfl) g1 g2 g3 g4 ?_
  obtain ⟨g5, T⟩ := T
  exact R_call1 (Dat dd_L_law_c11 29 rfl) rfl g5 rfl rfl rfl rfl rfl T
theorem t_L_law_1041 {h : Hp} {P : Value → Hp → Prop} {a3 s0 : Int} {a0 : Nat} (T : (tg h a0 = 20 ∨ tg h a0 = 30) ∧ ((ln h a0 : Int) ≤ 2147483648) ∧ (0 ≤ (a3 + 1)) ∧ ((a3 + 1) < ln h a0) ∧ (tg h a0 = 20 ∨ tg h a0 = 30) ∧ ((ln h a0 : Int) ≤ 2147483648) ∧ (0 ≤ (a3 + 2)) ∧ ((a3 + 2) < ln h a0) ∧ (tg h a0 = 20 ∨ tg h a0 = 30) ∧ ((ln h a0 : Int) ≤ 2147483648) ∧ (0 ≤ (a3 + 3)) ∧ ((a3 + 3) < ln h a0) ∧ (tg h a0 = 20 ∨ tg h a0 = 30) ∧ ((ln h a0 : Int) ≤ 2147483648) ∧ (0 ≤ (a3 + 4)) ∧ ((a3 + 4) < ln h a0) ∧ (tg h 400 = 13) ∧ R 187 0 [.ref 400, .int (I (iv h a0 (a3 + 1))), .int (I (iv h a0 (a3 + 2))), .int (I (iv h a0 (a3 + 3))), .int (I (iv h a0 (a3 + 4))), .retAddr 0, .retAddr 0, .retAddr 0] [] h (fun v h2 => R 208 1065 [.ref a0, .ref 0, .ref 400, .int (I a3)] (v :: [.long (J s0)]) h2 P)) : R 208 1041 [.ref a0, .ref 0, .ref 400, .int (I a3)] [.long (J s0)] h P := by
  refine R_aload_n (Dat dd_L_law_c11 55 rfl) rfl rfl ?_
  refine R_aload_n (Dat dd_L_law_c11 56 rfl) rfl rfl ?_
  refine R_iload_n (Dat dd_L_law_c11 57 rfl) rfl ?_
  refine R_iconst (Dat dd_L_law_c11 58 rfl) ?_
  refine R_iadd (Dat dd_L_law_c11 59 rfl) ?_
  obtain ⟨g1, T⟩ := T
  obtain ⟨g2, T⟩ := T
  obtain ⟨g3, T⟩ := T
  obtain ⟨g4, T⟩ := T
  refine R_iaload (Dat dd_L_law_c12 0 rfl) g1 g2 g3 g4 ?_
  refine R_aload_n (Dat dd_L_law_c12 1 rfl) rfl rfl ?_
  refine R_iload_n (Dat dd_L_law_c12 2 rfl) rfl ?_
  refine R_iconst (Dat dd_L_law_c12 3 rfl) ?_
  refine R_iadd (Dat dd_L_law_c12 4 rfl) ?_
  obtain ⟨g5, T⟩ := T
  obtain ⟨g6, T⟩ := T
  obtain ⟨g7, T⟩ := T
  obtain ⟨g8, T⟩ := T
  refine R_iaload (Dat dd_L_law_c12 5 rfl) g5 g6 g7 g8 ?_
  refine R_aload_n (Dat dd_L_law_c12 6 rfl) rfl rfl ?_
  refine R_iload_n (Dat dd_L_law_c12 7 rfl) rfl ?_
  refine R_iconst (Dat dd_L_law_c12 8 rfl) ?_
  refine R_iadd (Dat dd_L_law_c12 9 rfl) ?_
  obtain ⟨g9, T⟩ := T
  obtain ⟨g10, T⟩ := T
  obtain ⟨g11, T⟩ := T
  obtain ⟨g12, T⟩ := T
  refine R_iaload (Dat dd_L_law_c12 10 rfl) g9 g10 g11 g12 ?_
  refine R_aload_n (Dat dd_L_law_c12 11 rfl) rfl rfl ?_
  refine R_iload_n (Dat dd_L_law_c12 12 rfl) rfl ?_
  refine R_iconst (Dat dd_L_law_c12 13 rfl) ?_
  refine R_iadd (Dat dd_L_law_c12 14 rfl) ?_
  obtain ⟨g13, T⟩ := T
  obtain ⟨g14, T⟩ := T
  obtain ⟨g15, T⟩ := T
  obtain ⟨g16, T⟩ := T
  refine R_iaload (Dat dd_L_law_c12 15 rfl) g13 g14 g15 g16 ?_
  obtain ⟨g17, T⟩ := T
  exact R_call1 (Dat dd_L_law_c12 16 rfl) rfl g17 rfl rfl rfl rfl rfl T
theorem t_L_law_1085 {h : Hp} {P : Value → Hp → Prop} {a3 s0 : Int} {a0 : Nat} (T : (tg h a0 = 20 ∨ tg h a0 = 30) ∧ ((ln h a0 : Int) ≤ 2147483648) ∧ (0 ≤ (a3 + 1)) ∧ ((a3 + 1) < ln h a0) ∧ (tg h a0 = 20 ∨ tg h a0 = 30) ∧ ((ln h a0 : Int) ≤ 2147483648) ∧ (0 ≤ (a3 + 2)) ∧ ((a3 + 2) < ln h a0) ∧ (tg h 400 = 13) ∧ R 189 0 [.ref 400, .int (I (iv h a0 (a3 + 1))), .int (I (iv h a0 (a3 + 2)))] [] h (fun v h2 => R 208 1099 [.ref a0, .ref 0, .ref 400, .int (I a3)] (v :: [.int (I s0)]) h2 P)) : R 208 1085 [.ref a0, .ref 0, .ref 400, .int (I a3)] [.int (I s0)] h P := by
  refine R_aload_n (Dat dd_L_law_c12 33 rfl) rfl rfl ?_
  refine R_aload_n (Dat dd_L_law_c12 34 rfl) rfl rfl ?_
  refine R_iload_n (Dat dd_L_law_c12 35 rfl) rfl ?_
  refine R_iconst (Dat dd_L_law_c12 36 rfl) ?_
  refine R_iadd (Dat dd_L_law_c12 37 rfl) ?_
  obtain ⟨g1, T⟩ := T
  obtain ⟨g2, T⟩ := T
  obtain ⟨g3, T⟩ := T
  obtain ⟨g4, T⟩ := T
  refine R_iaload (Dat dd_L_law_c12 38 rfl) g1 g2 g3 g4 ?_
  refine R_aload_n (Dat dd_L_law_c12 39 rfl) rfl rfl ?_
  refine R_iload_n (Dat dd_L_law_c12 40 rfl) rfl ?_
  refine R_iconst (Dat dd_L_law_c12 41 rfl) ?_
  refine R_iadd (Dat dd_L_law_c12 42 rfl) ?_
  obtain ⟨g5, T⟩ := T
  obtain ⟨g6, T⟩ := T
  obtain ⟨g7, T⟩ := T
  obtain ⟨g8, T⟩ := T
  refine R_iaload (Dat dd_L_law_c12 43 rfl) g5 g6 g7 g8 ?_
  obtain ⟨g9, T⟩ := T
  exact R_call1 (Dat dd_L_law_c12 44 rfl) rfl g9 rfl rfl rfl rfl rfl T
theorem t_L_law_1113 {h : Hp} {P : Value → Hp → Prop} {a3 s0 : Int} {a0 : Nat} (T : (tg h a0 = 20 ∨ tg h a0 = 30) ∧ ((ln h a0 : Int) ≤ 2147483648) ∧ (0 ≤ (a3 + 1)) ∧ ((a3 + 1) < ln h a0) ∧ (tg h 400 = 13) ∧ R 190 0 [.ref 400, .int (I (iv h a0 (a3 + 1)))] [] h (fun v h2 => R 208 1122 [.ref a0, .ref 0, .ref 400, .int (I a3)] (v :: [.int (I s0)]) h2 P)) : R 208 1113 [.ref a0, .ref 0, .ref 400, .int (I a3)] [.int (I s0)] h P := by
  refine R_aload_n (Dat dd_L_law_c12 55 rfl) rfl rfl ?_
  refine R_aload_n (Dat dd_L_law_c12 56 rfl) rfl rfl ?_
  refine R_iload_n (Dat dd_L_law_c12 57 rfl) rfl ?_
  refine R_iconst (Dat dd_L_law_c12 58 rfl) ?_
  refine R_iadd (Dat dd_L_law_c12 59 rfl) ?_
  obtain ⟨g1, T⟩ := T
  obtain ⟨g2, T⟩ := T
  obtain ⟨g3, T⟩ := T
  obtain ⟨g4, T⟩ := T
  refine R_iaload (Dat dd_L_law_c13 0 rfl) g1 g2 g3 g4 ?_
  obtain ⟨g5, T⟩ := T
  exact R_call1 (Dat dd_L_law_c13 1 rfl) rfl g5 rfl rfl rfl rfl rfl T
theorem t_L_law_1141 {h : Hp} {P : Value → Hp → Prop} {a3 s0 : Int} {a0 : Nat} (T : (tg h a0 = 20 ∨ tg h a0 = 30) ∧ ((ln h a0 : Int) ≤ 2147483648) ∧ (0 ≤ (a3 + 1)) ∧ ((a3 + 1) < ln h a0) ∧ (tg h a0 = 20 ∨ tg h a0 = 30) ∧ ((ln h a0 : Int) ≤ 2147483648) ∧ (0 ≤ (a3 + 2)) ∧ ((a3 + 2) < ln h a0) ∧ (tg h 400 = 13) ∧ R 191 0 [.ref 400, .int (I (iv h a0 (a3 + 1))), .int (I (iv h a0 (a3 + 2))), .retAddr 0, .retAddr 0] [] h (fun v h2 => R 208 1155 [.ref a0, .ref 0, .ref 400, .int (I a3)] (v :: [.int (I s0)]) h2 P)) : R 208 1141 [.ref a0, .ref 0, .ref 400, .int (I a3)] [.int (I s0)] h P := by
  refine R_aload_n (Dat dd_L_law_c13 17 rfl) rfl rfl ?_
  refine R_aload_n (Dat dd_L_law_c13 18 rfl) rfl rfl ?_
  refine R_iload_n (Dat dd_L_law_c13 19 rfl) rfl ?_
  refine R_iconst (Dat dd_L_law_c13 20 rfl) ?_
  refine R_iadd (Dat dd_L_law_c13 21 rfl) ?_
  obtain ⟨g1, T⟩ := T
  obtain ⟨g2, T⟩ := T
  obtain ⟨g3, T⟩ := T
  obtain ⟨g4, T⟩ := T
  refine R_iaload (Dat dd_L_law_c13 22 rfl) g1 g2 g3 g4 ?_
  refine R_aload_n (Dat dd_L_law_c13 23 rfl) rfl rfl ?_
  refine R_iload_n (Dat dd_L_law_c13 24 rfl) rfl ?_
  refine R_iconst (Dat dd_L_law_c13 25 rfl) ?_
  refine R_iadd (Dat dd_L_law_c13 26 rfl) ?_
  obtain ⟨g5, T⟩ := T
  obtain ⟨g6, T⟩ := T
  obtain ⟨g7, T⟩ := T
  obtain ⟨g8, T⟩ := T
  refine R_iaload (Dat dd_L_law_c13 27 rfl) g5 g6 g7 g8 ?_
  obtain ⟨g9, T⟩ := T
  exact R_call1 (Dat dd_L_law_c13 28 rfl) rfl g9 rfl rfl rfl rfl rfl T
theorem t_L_law_1195 {h : Hp} {P : Value → Hp → Prop} {a3 s0 : Int} {a0 : Nat} (T : (tg h a0 = 20 ∨ tg h a0 = 30) ∧ ((ln h a0 : Int) ≤ 2147483648) ∧ (0 ≤ (a3 + 1)) ∧ ((a3 + 1) < ln h a0) ∧ (tg h a0 = 20 ∨ tg h a0 = 30) ∧ ((ln h a0 : Int) ≤ 2147483648) ∧ (0 ≤ (a3 + 2)) ∧ ((a3 + 2) < ln h a0) ∧ (tg h a0 = 20 ∨ tg h a0 = 30) ∧ ((ln h a0 : Int) ≤ 2147483648) ∧ (0 ≤ (a3 + 3)) ∧ ((a3 + 3) < ln h a0) ∧ (tg h a0 = 20 ∨ tg h a0 = 30) ∧ ((ln h a0 : Int) ≤ 2147483648) ∧ (0 ≤ (a3 + 4)) ∧ ((a3 + 4) < ln h a0) ∧ (tg h a0 = 20 ∨ tg h a0 = 30) ∧ ((ln h a0 : Int) ≤ 2147483648) ∧ (0 ≤ (a3 + 5)) ∧ ((a3 + 5) < ln h a0) ∧ (tg h a0 = 20 ∨ tg h a0 = 30) ∧ ((ln h a0 : Int) ≤ 2147483648) ∧ (0 ≤ (a3 + 6)) ∧ ((a3 + 6) < ln h a0) ∧ (tg h 400 = 13) ∧ R 193 0 [.ref 400, .int (I (iv h a0 (a3 + 1))), .int (I (iv h a0 (a3 + 2))), .int (I (iv h a0 (a3 + 3))), .int (I (iv h a0 (a3 + 4))), .int (I (iv h a0 (a3 + 5))), .int (I (iv h a0 (a3 + 6))), .retAddr 0, .retAddr 0, .retAddr 0, .retAddr 0, .retAddr 0] [] h (fun v h2 => R 208 1230 [.ref a0, .ref 0, .ref 400, .int (I a3)] (v :: [.int (I s0)]) h2 P)) : R 208 1195 [.ref a0, .ref 0, .ref 400, .int (I a3)] [.int (I s0)] h P := by
  refine R_aload_n (Dat dd_L_law_c14 4 rfl) rfl rfl ?_
  refine R_aload_n (Dat dd_L_law_c14 5 rfl) rfl rfl ?_
  refine R_iload_n (Dat dd_L_law_c14 6 rfl) rfl ?_
  refine R_iconst (Dat dd_L_law_c14 7 rfl) ?_
  refine R_iadd (Dat dd_L_law_c14 8 rfl) ?_
  obtain ⟨g1, T⟩ := T
  obtain ⟨g2, T⟩ := T
  obtain ⟨g3, T⟩ := T
  obtain ⟨g4, T⟩ := T
  refine R_iaload (Dat dd_L_law_c14 9 rfl) g1 g2 g3 g4 ?_
  refine R_aload_n (Dat dd_L_law_c14 10 rfl) rfl rfl ?_
  refine R_iload_n (Dat dd_L_law_c14 11 rfl) rfl ?_
  refine R_iconst (Dat dd_L_law_c14 12 rfl) ?_
  refine R_iadd (Dat dd_L_law_c14 13 rfl) ?_
  obtain ⟨g5, T⟩ := T
  obtain ⟨g6, T⟩ := T
  obtain ⟨g7, T⟩ := T
  obtain ⟨g8, T⟩ := T
  refine R_iaload (Dat dd_L_law_c14 14 rfl) g5 g6 g7 g8 ?_
  refine R_aload_n (Dat dd_L_law_c14 15 rfl) rfl rfl ?_
  refine R_iload_n (Dat dd_L_law_c14 16 rfl) rfl ?_
  refine R_iconst (Dat dd_L_law_c14 17 rfl) ?_
  refine R_iadd (Dat dd_L_law_c14 18 rfl) ?_
  obtain ⟨g9, T⟩ := T
  obtain ⟨g10, T⟩ := T
  obtain ⟨g11, T⟩ := T
  obtain ⟨g12, T⟩ := T
  refine R_iaload (Dat dd_L_law_c14 19 rfl) g9 g10 g11 g12 ?_
  refine R_aload_n (Dat dd_L_law_c14 20 rfl) rfl rfl ?_
  refine R_iload_n (Dat dd_L_law_c14 21 rfl) rfl ?_
  refine R_iconst (Dat dd_L_law_c14 22 rfl) ?_
  refine R_iadd (Dat dd_L_law_c14 23 rfl) ?_
  obtain ⟨g13, T⟩ := T
  obtain ⟨g14, T⟩ := T
  obtain ⟨g15, T⟩ := T
  obtain ⟨g16, T⟩ := T
  refine R_iaload (Dat dd_L_law_c14 24 rfl) g13 g14 g15 g16 ?_
  refine R_aload_n (Dat dd_L_law_c14 25 rfl) rfl rfl ?_
  refine R_iload_n (Dat dd_L_law_c14 26 rfl) rfl ?_
  refine R_iconst (Dat dd_L_law_c14 27 rfl) ?_
  refine R_iadd (Dat dd_L_law_c14 28 rfl) ?_
  obtain ⟨g17, T⟩ := T
  obtain ⟨g18, T⟩ := T
  obtain ⟨g19, T⟩ := T
  obtain ⟨g20, T⟩ := T
  refine R_iaload (Dat dd_L_law_c14 29 rfl) g17 g18 g19 g20 ?_
  refine R_aload_n (Dat dd_L_law_c14 30 rfl) rfl rfl ?_
  refine R_iload_n (Dat dd_L_law_c14 31 rfl) rfl ?_
  refine R_bipush (Dat dd_L_law_c14 32 rfl) (a := 6) rfl ?_
  refine R_iadd (Dat dd_L_law_c14 33 rfl) ?_
  obtain ⟨g21, T⟩ := T
  obtain ⟨g22, T⟩ := T
  obtain ⟨g23, T⟩ := T
  obtain ⟨g24, T⟩ := T
  refine R_iaload (Dat dd_L_law_c14 34 rfl) g21 g22 g23 g24 ?_
  obtain ⟨g25, T⟩ := T
  exact R_call1 (Dat dd_L_law_c14 35 rfl) rfl g25 rfl rfl rfl rfl rfl T
theorem t_L_law_1249 {h : Hp} {P : Value → Hp → Prop} {a3 s0 : Int} {a0 : Nat} (T : (tg h a0 = 20 ∨ tg h a0 = 30) ∧ ((ln h a0 : Int) ≤ 2147483648) ∧ (0 ≤ (a3 + 1)) ∧ ((a3 + 1) < ln h a0) ∧ (tg h a0 = 20 ∨ tg h a0 = 30) ∧ ((ln h a0 : Int) ≤ 2147483648) ∧ (0 ≤ (a3 + 2)) ∧ ((a3 + 2) < ln h a0) ∧ (tg h 400 = 13) ∧ R 194 0 [.ref 400, .int (I (iv h a0 (a3 + 1))), .int (I (iv h a0 (a3 + 2))), .retAddr 0, .retAddr 0] [] h (fun v h2 => R 208 1263 [.ref a0, .ref 0, .ref 400, .int (I a3)] (v :: [.int (I s0)]) h2 P)) : R 208 1249 [.ref a0, .ref 0, .ref 400, .int (I a3)] [.int (I s0)] h P := by
  refine R_aload_n (Dat dd_L_law_c14 51 rfl) rfl rfl ?_
  refine R_aload_n (Dat dd_L_law_c14 52 rfl) rfl rfl ?_
  refine R_iload_n (Dat dd_L_law_c14 53 rfl) rfl ?_
  refine R_iconst (Dat dd_L_law_c14 54 rfl) ?_
  refine R_iadd (Dat dd_L_law_c14 55 rfl) ?_
  obtain ⟨g1, T⟩ := T
  obtain ⟨g2, T⟩ := T
  obtain ⟨g3, T⟩ := T
  obtain ⟨g4, T⟩ := T
  refine R_iaload (Dat dd_L_law_c14 56 rfl) g1 g2 g3 g4 ?_
  refine R_aload_n (Dat dd_L_law_c14 57 rfl) rfl rfl ?_
  refine R_iload_n (Dat dd_L_law_c14 58 rfl) rfl ?_
  refine R_iconst (Dat dd_L_law_c14 59 rfl) ?_
  refine R_iadd (Dat dd_L_law_c15 0 rfl) ?_
  obtain ⟨g5, T⟩ := T
  obtain ⟨g6, T⟩ := T
  obtain ⟨g7, T⟩ := T
  obtain ⟨g8, T⟩ := T
  refine R_iaload (Dat dd_L_law_c15 1 rfl) g5 g6 g7 g8 ?_
  obtain ⟨g9, T⟩ := T
  exact R_call1 (Dat dd_L_law_c15 2 rfl) rfl g9 rfl rfl rfl rfl rfl T
theorem t_L_law_1287 {h : Hp} {P : Value → Hp → Prop} {a3 s0 : Int} {a0 : Nat} (T : (tg h a0 = 20 ∨ tg h a0 = 30) ∧ ((ln h a0 : Int) ≤ 2147483648) ∧ (0 ≤ (a3 + 1)) ∧ ((a3 + 1) < ln h a0) ∧ (tg h a0 = 20 ∨ tg h a0 = 30) ∧ ((ln h a0 : Int) ≤ 2147483648) ∧ (0 ≤ (a3 + 2)) ∧ ((a3 + 2) < ln h a0) ∧ (tg h a0 = 20 ∨ tg h a0 = 30) ∧ ((ln h a0 : Int) ≤ 2147483648) ∧ (0 ≤ (a3 + 3)) ∧ ((a3 + 3) < ln h a0) ∧ (tg h 400 = 13) ∧ R 195 0 [.ref 400, .int (I (iv h a0 (a3 + 1))), .int (I (iv h a0 (a3 + 2))), .int (I (iv h a0 (a3 + 3))), .retAddr 0] [] h (fun v h2 => R 208 1306 [.ref a0, .ref 0, .ref 400, .int (I a3)] (v :: [.int (I s0)]) h2 P)) : R 208 1287 [.ref a0, .ref 0, .ref 400, .int (I a3)] [.int (I s0)] h P := by
  refine R_aload_n (Dat dd_L_law_c15 23 rfl) rfl rfl ?_
  refine R_aload_n (Dat dd_L_law_c15 24 rfl) rfl rfl ?_
  refine R_iload_n (Dat dd_L_law_c15 25 rfl) rfl ?_
  refine R_iconst (Dat dd_L_law_c15 26 rfl) ?_
  refine R_iadd (Dat dd_L_law_c15 27 rfl) ?_
  obtain ⟨g1, T⟩ := T
  obtain ⟨g2, T⟩ := T
  obtain ⟨g3, T⟩ := T
  obtain ⟨g4, T⟩ := T
  refine R_iaload (Dat dd_L_law_c15 28 rfl) g1 g2 g3 g4 ?_
  refine R_aload_n (Dat dd_L_law_c15 29 rfl) rfl rfl ?_
  refine R_iload_n (Dat dd_L_law_c15 30 rfl) rfl ?_
  refine R_iconst (Dat dd_L_law_c15 31 rfl) ?_
  refine R_iadd (Dat dd_L_law_c15 32 rfl) ?_
  obtain ⟨g5, T⟩ := T
  obtain ⟨g6, T⟩ := T
  obtain ⟨g7, T⟩ := T
  obtain ⟨g8, T⟩ := T
  refine R_iaload (Dat dd_L_law_c15 33 rfl) g5 g6 g7 g8 ?_
  refine R_aload_n (Dat dd_L_law_c15 34 rfl) rfl rfl ?_
  refine R_iload_n (Dat dd_L_law_c15 35 rfl) rfl ?_
  refine R_iconst (Dat dd_L_law_c15 36 rfl) ?_
  refine R_iadd (Dat dd_L_law_c15 37 rfl) ?_
  obtain ⟨g9, T⟩ := T
  obtain ⟨g10, T⟩ := T
  obtain ⟨g11, T⟩ := T
  obtain ⟨g12, T⟩ := T
  refine R_iaload (Dat dd_L_law_c15 38 rfl) g9 g10 g11 g12 ?_
  obtain ⟨g13, T⟩ := T
  exact R_call1 (Dat dd_L_law_c15 39 rfl) rfl g13 rfl rfl rfl rfl rfl T
theorem t_L_law_1320 {h : Hp} {P : Value → Hp → Prop} {a3 s0 : Int} {a0 : Nat} (T : (tg h a0 = 20 ∨ tg h a0 = 30) ∧ ((ln h a0 : Int) ≤ 2147483648) ∧ (0 ≤ (a3 + 1)) ∧ ((a3 + 1) < ln h a0) ∧ (tg h 400 = 13) ∧ R 196 0 [.ref 400, .int (I (iv h a0 (a3 + 1))), .retAddr 0] [] h (fun v h2 => R 208 1329 [.ref a0, .ref 0, .ref 400, .int (I a3)] (v :: [.int (I s0)]) h2 P)) : R 208 1320 [.ref a0, .ref 0, .ref 400, .int (I a3)] [.int (I s0)] h P := by
  refine R_aload_n (Dat dd_L_law_c15 50 rfl) rfl rfl ?_
  refine R_aload_n (Dat dd_L_law_c15 51 rfl) rfl rfl ?_
  refine R_iload_n (Dat dd_L_law_c15 52 rfl) rfl ?_
  refine R_iconst (Dat dd_L_law_c15 53 rfl) ?_
  refine R_iadd (Dat dd_L_law_c15 54 rfl) ?_
  obtain ⟨g1, T⟩ := T
  obtain ⟨g2, T⟩ := T
  obtain ⟨g3, T⟩ := T
  obtain ⟨g4, T⟩ := T
  refine R_iaload (Dat dd_L_law_c15 55 rfl) g1 g2 g3 g4 ?_
  obtain ⟨g5, T⟩ := T
  exact R_call1 (Dat dd_L_law_c15 56 rfl) rfl g5 rfl rfl rfl rfl rfl T
theorem t_L_law_1353 {h : Hp} {P : Value → Hp → Prop} {a3 s0 : Int} {a0 : Nat} (T : (tg h a0 = 20 ∨ tg h a0 = 30) ∧ ((ln h a0 : Int) ≤ 2147483648) ∧ (0 ≤ (a3 + 1)) ∧ ((a3 + 1) < ln h a0) ∧ (tg h a0 = 20 ∨ tg h a0 = 30) ∧ ((ln h a0 : Int) ≤ 2147483648) ∧ (0 ≤ (a3 + 2)) ∧ ((a3 + 2) < ln h a0) ∧ (tg h a0 = 20 ∨ tg h a0 = 30) ∧ ((ln h a0 : Int) ≤ 2147483648) ∧ (0 ≤ (a3 + 3)) ∧ ((a3 + 3) < ln h a0) ∧ (tg h 400 = 13) ∧ R 197 0 [.ref 400, .int (I (iv h a0 (a3 + 1))), .int (I (iv h a0 (a3 + 2))), .int (I (iv h a0 (a3 + 3)))] [] h (fun v h2 => R 208 1372 [.ref a0, .ref 0, .ref 400, .int (I a3)] (v :: [.int (I s0)]) h2 P)) : R 208 1353 [.ref a0, .ref 0, .ref 400, .int (I a3)] [.int (I s0)] h P := by
  refine R_aload_n (Dat dd_L_law_c16 17 rfl) rfl rfl ?_
  refine R_aload_n (Dat dd_L_law_c16 18 rfl) rfl rfl ?_
  refine R_iload_n (Dat dd_L_law_c16 19 rfl) rfl ?_
  refine R_iconst (Dat dd_L_law_c16 20 rfl) ?_
  refine R_iadd (Dat dd_L_law_c16 21 rfl) ?_
  obtain ⟨g1, T⟩ := T
  obtain ⟨g2, T⟩ := T
  obtain ⟨g3, T⟩ := T
  obtain ⟨g4, T⟩ := T
  refine R_iaload (Dat dd_L_law_c16 22 rfl) g1 g2 g3 g4 ?_
  refine R_aload_n (Dat dd_L_law_c16 23 rfl) rfl rfl ?_
  refine R_iload_n (Dat dd_L_law_c16 24 rfl) rfl ?_
  refine R_iconst (Dat dd_L_law_c16 25 rfl) ?_
  refine R_iadd (Dat dd_L_law_c16 26 rfl) ?_
  obtain ⟨g5, T⟩ := T
  obtain ⟨g6, T⟩ := T
  obtain ⟨g7, T⟩ := T
  obtain ⟨g8, T⟩ := T
  refine R_iaload (Dat dd_L_law_c16 27 rfl) g5 g6 g7 g8 ?_
  refine R_aload_n (Dat dd_L_law_c16 28 rfl) rfl rfl ?_
  refine R_iload_n (Dat dd_L_law_c16 29 rfl) rfl ?_
  refine R_iconst (Dat dd_L_law_c16 30 rfl) ?_
  refine R_iadd (Dat dd_L_law_c16 31 rfl) ?_
  obtain ⟨g9, T⟩ := T
  obtain ⟨g10, T⟩ := T
  obtain ⟨g11, T⟩ := T
  obtain ⟨g12, T⟩ := T
  refine R_iaload (Dat dd_L_law_c16 32 rfl) g9 g10 g11 g12 ?_
  obtain ⟨g13, T⟩ := T
  exact R_call1 (Dat dd_L_law_c16 33 rfl) rfl g13 rfl rfl rfl rfl rfl T
theorem t_L_law_1396 {h : Hp} {P : Value → Hp → Prop} {a3 s0 : Int} {a0 : Nat} (T : (tg h a0 = 20 ∨ tg h a0 = 30) ∧ ((ln h a0 : Int) ≤ 2147483648) ∧ (0 ≤ (a3 + 1)) ∧ ((a3 + 1) < ln h a0) ∧ (tg h a0 = 20 ∨ tg h a0 = 30) ∧ ((ln h a0 : Int) ≤ 2147483648) ∧ (0 ≤ (a3 + 2)) ∧ ((a3 + 2) < ln h a0) ∧ (tg h a0 = 20 ∨ tg h a0 = 30) ∧ ((ln h a0 : Int) ≤ 2147483648) ∧ (0 ≤ (a3 + 3)) ∧ ((a3 + 3) < ln h a0) ∧ (tg h 400 = 13) ∧ R 198 0 [.ref 400, .int (I (iv h a0 (a3 + 1))), .int (I (iv h a0 (a3 + 2))), .int (I (iv h a0 (a3 + 3)))] [] h (fun v h2 => R 208 1415 [.ref a0, .ref 0, .ref 400, .int (I a3)] (v :: [.long (J s0)]) h2 P)) : R 208 1396 [.ref a0, .ref 0, .ref 400, .int (I a3)] [.long (J s0)] h P := by
  refine R_aload_n (Dat dd_L_law_c16 54 rfl) rfl rfl ?_
  refine R_aload_n (Dat dd_L_law_c16 55 rfl) rfl rfl ?_
  refine R_iload_n (Dat dd_L_law_c16 56 rfl) rfl ?_
  refine R_iconst (Dat dd_L_law_c16 57 rfl) ?_
  refine R_iadd (Dat dd_L_law_c16 58 rfl) ?_
  obtain ⟨g1, T⟩ := T
  obtain ⟨g2, T⟩ := T
  obtain ⟨g3, T⟩ := T
  obtain ⟨g4, T⟩ := T
  refine R_iaload (Dat dd_L_law_c16 59 rfl) g1 g2 g3 g4 ?_
  refine R_aload_n (Dat dd_L_law_c17 0 rfl) rfl rfl ?_
  refine R_iload_n (Dat dd_L_law_c17 1 rfl) rfl ?_
  refine R_iconst (Dat dd_L_law_c17 2 rfl) ?_
  refine R_iadd (Dat dd_L_law_c17 3 rfl) ?_
  obtain ⟨g5, T⟩ := T
  obtain ⟨g6, T⟩ := T
  obtain ⟨g7, T⟩ := T
  obtain ⟨g8, T⟩ := T
  refine R_iaload (Dat dd_L_law_c17 4 rfl) g5 g6 g7 g8 ?_
  refine R_aload_n (Dat dd_L_law_c17 5 rfl) rfl rfl ?_
  refine R_iload_n (Dat dd_L_law_c17 6 rfl) rfl ?_
  refine R_iconst (Dat dd_L_law_c17 7 rfl) ?_
  refine R_iadd (Dat dd_L_law_c17 8 rfl) ?_
  obtain ⟨g9, T⟩ := T
  obtain ⟨g10, T⟩ := T
  obtain ⟨g11, T⟩ := T
  obtain ⟨g12, T⟩ := T
  refine R_iaload (Dat dd_L_law_c17 9 rfl) g9 g10 g11 g12 ?_
  obtain ⟨g13, T⟩ := T
  exact R_call1 (Dat dd_L_law_c17 10 rfl) rfl g13 rfl rfl rfl rfl rfl T
theorem t_L_law_1450 {h : Hp} {P : Value → Hp → Prop} {a3 s0 : Int} {a0 : Nat} (T : (tg h a0 = 20 ∨ tg h a0 = 30) ∧ ((ln h a0 : Int) ≤ 2147483648) ∧ (0 ≤ (a3 + 1)) ∧ ((a3 + 1) < ln h a0) ∧ (tg h a0 = 20 ∨ tg h a0 = 30) ∧ ((ln h a0 : Int) ≤ 2147483648) ∧ (0 ≤ (a3 + 2)) ∧ ((a3 + 2) < ln h a0) ∧ (tg h a0 = 20 ∨ tg h a0 = 30) ∧ ((ln h a0 : Int) ≤ 2147483648) ∧ (0 ≤ (a3 + 3)) ∧ ((a3 + 3) < ln h a0) ∧ (tg h a0 = 20 ∨ tg h a0 = 30) ∧ ((ln h a0 : Int) ≤ 2147483648) ∧ (0 ≤ (a3 + 4)) ∧ ((a3 + 4) < ln h a0) ∧ (tg h a0 = 20 ∨ tg h a0 = 30) ∧ ((ln h a0 : Int) ≤ 2147483648) ∧ (0 ≤ (a3 + 5)) ∧ ((a3 + 5) < ln h a0) ∧ (tg h 400 = 13) ∧ R 200 0 [.ref 400, .int (I (iv h a0 (a3 + 1))), .int (I (iv h a0 (a3 + 2))), .int (I (iv h a0 (a3 + 3))), .int (I (iv h a0 (a3 + 4))), .int (I (iv h a0 (a3 + 5))), .retAddr 0, .retAddr 0, .retAddr 0, .retAddr 0] [] h (fun v h2 => R 208 1479 [.ref a0, .ref 0, .ref 400, .int (I a3)] (v :: [.int (I s0)]) h2 P)) : R 208 1450 [.ref a0, .ref 0, .ref 400, .int (I a3)] [.int (I s0)] h P := by
  refine R_aload_n (Dat dd_L_law_c17 42 rfl) rfl rfl ?_
  refine R_aload_n (Dat dd_L_law_c17 43 rfl) rfl rfl ?_
  refine R_iload_n (Dat dd_L_law_c17 44 rfl) rfl ?_
  refine R_iconst (Dat dd_L_law_c17 45 rfl) ?_
  refine R_iadd (Dat dd_L_law_c17 46 rfl) ?_
  obtain ⟨g1, T⟩ := T
  obtain ⟨g2, T⟩ := T
  obtain ⟨g3, T⟩ := T
  obtain ⟨g4, T⟩ := T
  refine R_iaload (Dat dd_L_law_c17 47 rfl) g1 g2 g3 g4 ?_
  refine R_aload_n (Dat dd_L_law_c17 48 rfl) rfl rfl ?_
  refine R_iload_n (Dat dd_L_law_c17 49 rfl) rfl ?_
  refine R_iconst (Dat dd_L_law_c17 50 rfl) ?_
  refine R_iadd (Dat dd_L_law_c17 51 rfl) ?_
  obtain ⟨g5, T⟩ := T
  obtain ⟨g6, T⟩ := T
  obtain ⟨g7, T⟩ := T
  obtain ⟨g8, T⟩ := T
  refine R_iaload (Dat dd_L_law_c17 52 rfl) g5 g6 g7 g8 ?_
  refine R_aload_n (Dat dd_L_law_c17 53 rfl) rfl rfl ?_
  refine R_iload_n (Dat dd_L_law_c17 54 rfl) rfl ?_
  refine R_iconst (Dat dd_L_law_c17 55 rfl) ?_
  refine R_iadd (Dat dd_L_law_c17 56 rfl) ?_
  obtain ⟨g9, T⟩ := T
  obtain ⟨g10, T⟩ := T
  obtain ⟨g11, T⟩ := T
  obtain ⟨g12, T⟩ := T
  refine R_iaload (Dat dd_L_law_c17 57 rfl) g9 g10 g11 g12 ?_
  refine R_aload_n (Dat dd_L_law_c17 58 rfl) rfl rfl ?_
  refine R_iload_n (Dat dd_L_law_c17 59 rfl) rfl ?_
  refine R_iconst (Dat dd_L_law_c18 0 rfl) ?_
  refine R_iadd (Dat dd_L_law_c18 1 rfl) ?_
  obtain ⟨g13, T⟩ := T
  obtain ⟨g14, T⟩ := T
  obtain ⟨g15, T⟩ := T
  obtain ⟨g16, T⟩ := T
  refine R_iaload (Dat dd_L_law_c18 2 rfl) g13 g14 g15 g16 ?_
  refine R_aload_n (Dat dd_L_law_c18 3 rfl) rfl rfl ?_
  refine R_iload_n (Dat dd_L_law_c18 4 rfl) rfl ?_
  refine R_iconst (Dat dd_L_law_c18 5 rfl) ?_
  refine R_iadd (Dat dd_L_law_c18 6 rfl) ?_
  obtain ⟨g17, T⟩ := T
  obtain ⟨g18, T⟩ := T
  obtain ⟨g19, T⟩ := T
  obtain ⟨g20, T⟩ := T
  refine R_iaload (Dat dd_L_law_c18 7 rfl) g17 g18 g19 g20 ?_
  obtain ⟨g21, T⟩ := T
  exact R_call1 (Dat dd_L_law_c18 8 rfl) rfl g21 rfl rfl rfl rfl rfl T
theorem t_L_law_1493 {h : Hp} {P : Value → Hp → Prop} {a3 s0 : Int} {a0 : Nat} (T : (tg h a0 = 20 ∨ tg h a0 = 30) ∧ ((ln h a0 : Int) ≤ 2147483648) ∧ (0 ≤ (a3 + 1)) ∧ ((a3 + 1) < ln h a0) ∧ (tg h 400 = 13) ∧ R 201 0 [.ref 400, .int (I (iv h a0 (a3 + 1))), .retAddr 0] [] h (fun v h2 => R 208 1502 [.ref a0, .ref 0, .ref 400, .int (I a3)] (v :: [.int (I s0)]) h2 P)) : R 208 1493 [.ref a0, .ref 0, .ref 400, .int (I a3)] [.int (I s0)] h P := by
  refine R_aload_n (Dat dd_L_law_c18 19 rfl) rfl rfl ?_
  refine R_aload_n (Dat dd_L_law_c18 20 rfl) rfl rfl ?_
  refine R_iload_n (Dat dd_L_law_c18 21 rfl) rfl ?_
  refine R_iconst (Dat dd_L_law_c18 22 rfl) ?_
  refine R_iadd (Dat dd_L_law_c18 23 rfl) ?_
  obtain ⟨g1, T⟩ := T
  obtain ⟨g2, T⟩ := T
  obtain ⟨g3, T⟩ := T
  obtain ⟨g4, T⟩ := T
  refine R_iaload (Dat dd_L_law_c18 24 rfl) g1 g2 g3 g4 ?_
  obtain ⟨g5, T⟩ := T
  exact R_call1 (Dat dd_L_law_c18 25 rfl) rfl g5 rfl rfl rfl rfl rfl T
theorem t_L_law_1516 {h : Hp} {P : Value → Hp → Prop} {a3 s0 : Int} {a0 : Nat} (T : (tg h a0 = 20 ∨ tg h a0 = 30) ∧ ((ln h a0 : Int) ≤ 2147483648) ∧ (0 ≤ (a3 + 1)) ∧ ((a3 + 1) < ln h a0) ∧ (tg h 400 = 13) ∧ R 203 0 [.ref 400, .int (I (iv h a0 (a3 + 1)))] [] h (fun v h2 => R 208 1525 [.ref a0, .ref 0, .ref 400, .int (I a3)] (v :: [.int (I s0)]) h2 P)) : R 208 1516 [.ref a0, .ref 0, .ref 400, .int (I a3)] [.int (I s0)] h P := by
  refine R_aload_n (Dat dd_L_law_c18 36 rfl) rfl rfl ?_
  refine R_aload_n (Dat dd_L_law_c18 37 rfl) rfl rfl ?_
  refine R_iload_n (Dat dd_L_law_c18 38 rfl) rfl ?_
  refine R_iconst (Dat dd_L_law_c18 39 rfl) ?_
  refine R_iadd (Dat dd_L_law_c18 40 rfl) ?_
  obtain ⟨g1, T⟩ := T
  obtain ⟨g2, T⟩ := T
  obtain ⟨g3, T⟩ := T
  obtain ⟨g4, T⟩ := T
  refine R_iaload (Dat dd_L_law_c18 41 rfl) g1 g2 g3 g4 ?_
  obtain ⟨g5, T⟩ := T
  exact R_call1 (Dat dd_L_law_c18 42 rfl) rfl g5 rfl rfl rfl rfl rfl T
theorem t_L_law_1544 {h : Hp} {P : Value → Hp → Prop} {a3 s0 : Int} {a0 : Nat} (T : (tg h a0 = 20 ∨ tg h a0 = 30) ∧ ((ln h a0 : Int) ≤ 2147483648) ∧ (0 ≤ (a3 + 1)) ∧ ((a3 + 1) < ln h a0) ∧ (tg h a0 = 20 ∨ tg h a0 = 30) ∧ ((ln h a0 : Int) ≤ 2147483648) ∧ (0 ≤ (a3 + 2)) ∧ ((a3 + 2) < ln h a0) ∧ (tg h 400 = 13) ∧ R 204 0 [.ref 400, .int (I (iv h a0 (a3 + 1))), .int (I (iv h a0 (a3 + 2)))] [] h (fun v h2 => R 208 1558 [.ref a0, .ref 0, .ref 400, .int (I a3)] (v :: [.int (I s0)]) h2 P)) : R 208 1544 [.ref a0, .ref 0, .ref 400, .int (I a3)] [.int (I s0)] h P := by
  refine R_aload_n (Dat dd_L_law_c18 58 rfl) rfl rfl ?_
  refine R_aload_n (Dat dd_L_law_c18 59 rfl) rfl rfl ?_
  refine R_iload_n (Dat dd_L_law_c19 0 rfl) rfl ?_
  refine R_iconst (Dat dd_L_law_c19 1 rfl) ?_
  refine R_iadd (Dat dd_L_law_c19 2 rfl) ?_
  obtain ⟨g1, T⟩ := T
  obtain ⟨g2, T⟩ := T
  obtain ⟨g3, T⟩ := T
  obtain ⟨g4, T⟩ := T
  refine R_iaload (Dat dd_L_law_c19 3 rfl) g1 g2 g3 g4 ?_
  refine R_aload_n (Dat dd_L_law_c19 4 rfl) rfl rfl ?_
  refine R_iload_n (Dat dd_L_law_c19 5 rfl) rfl ?_
  refine R_iconst (Dat dd_L_law_c19 6 rfl) ?_
  refine R_iadd (Dat dd_L_law_c19 7 rfl) ?_
  obtain ⟨g5, T⟩ := T
  obtain ⟨g6, T⟩ := T
  obtain ⟨g7, T⟩ := T
  obtain ⟨g8, T⟩ := T
  refine R_iaload (Dat dd_L_law_c19 8 rfl) g5 g6 g7 g8 ?_
  obtain ⟨g9, T⟩ := T
  exact R_call1 (Dat dd_L_law_c19 9 rfl) rfl g9 rfl rfl rfl rfl rfl T
theorem t_L_law_1567 {h : Hp} {P : Value → Hp → Prop} {a3 s0 : Int} {a0 : Nat} (T : (tg h 400 = 13) ∧ R 205 0 [.ref 400] [] h (fun v h2 => R 208 1571 [.ref a0, .ref 0, .ref 400, .int (I a3)] (v :: [.int (I s0)]) h2 P)) : R 208 1567 [.ref a0, .ref 0, .ref 400, .int (I a3)] [.int (I s0)] h P := by
  refine R_aload_n (Dat dd_L_law_c19 15 rfl) rfl rfl ?_
  obtain ⟨g1, T⟩ := T
  exact R_call1 (Dat dd_L_law_c19 16 rfl) rfl g1 rfl rfl rfl rfl rfl T
theorem t_L_law_1580 {h : Hp} {P : Value → Hp → Prop} {a3 s0 : Int} {a0 : Nat} (T : (tg h 400 = 13) ∧ R 206 0 [.ref 400] [] h (fun v h2 => R 208 1584 [.ref a0, .ref 0, .ref 400, .int (I a3)] (v :: [.int (I s0)]) h2 P)) : R 208 1580 [.ref a0, .ref 0, .ref 400, .int (I a3)] [.int (I s0)] h P := by
  refine R_aload_n (Dat dd_L_law_c19 22 rfl) rfl rfl ?_
  obtain ⟨g1, T⟩ := T
  exact R_call1 (Dat dd_L_law_c19 23 rfl) rfl g1 rfl rfl rfl rfl rfl T
theorem t_L_law_1598 {h : Hp} {P : Value → Hp → Prop} {a3 s0 : Int} {a0 : Nat} (T : (tg h a0 = 20 ∨ tg h a0 = 30) ∧ ((ln h a0 : Int) ≤ 2147483648) ∧ (0 ≤ (a3 + 1)) ∧ ((a3 + 1) < ln h a0) ∧ (tg h 400 = 13) ∧ R 207 0 [.ref 400, .int (I (iv h a0 (a3 + 1)))] [] h (fun v h2 => R 208 1607 [.ref a0, .ref 0, .ref 400, .int (I a3)] (v :: [.int (I s0)]) h2 P)) : R 208 1598 [.ref a0, .ref 0, .ref 400, .int (I a3)] [.int (I s0)] h P := by
  refine R_aload_n (Dat dd_L_law_c19 34 rfl) rfl rfl ?_
  refine R_aload_n (Dat dd_L_law_c19 35 rfl) rfl rfl ?_
  refine R_iload_n (Dat dd_L_law_c19 36 rfl) rfl ?_
  refine R_iconst (Dat dd_L_law_c19 37 rfl) ?_
  refine R_iadd (Dat dd_L_law_c19 38 rfl) ?_
  obtain ⟨g1, T⟩ := T
  obtain ⟨g2, T⟩ := T
  obtain ⟨g3, T⟩ := T
  obtain ⟨g4, T⟩ := T
  refine R_iaload (Dat dd_L_law_c19 39 rfl) g1 g2 g3 g4 ?_
  obtain ⟨g5, T⟩ := T
  exact R_call1 (Dat dd_L_law_c19 40 rfl) rfl g5 rfl rfl rfl rfl rfl T
theorem t_L_law_256 {h : Hp} {P : Value → Hp → Prop} {a3 s0 s1 : Int} {a0 : Nat} (T : (rng s1) ∧ (rng s0) ∧ ((s1 = s0 → R 208 18 [.ref a0, .ref 0, .ref 400, .int (I (a3 + 7))] [] h P) ∧ (¬ s1 = s0 → P (.int (I 0)) h))) : R 208 256 [.ref a0, .ref 0, .ref 400, .int (I a3)] [.int (I s0), .int (I s1)] h P := by
  obtain ⟨g1, T⟩ := T
  obtain ⟨g2, T⟩ := T
  refine R_ic_eq (Dat dd_L_law_c1 6 rfl) rfl g1 g2 (fun c => ?_) (fun c => ?_)
  · replace T := T.1 c
    refine R_iinc (Dat dd_L_law_c19 44 rfl) rfl rfl rfl ?_
    refine R_goto (Dat dd_L_law_c19 45 rfl) rfl ?_
    exact T
  · replace T := T.2 c
    refine R_iconst (Dat dd_L_law_c1 7 rfl) ?_
    exact R_ireturn (Dat dd_L_law_c1 8 rfl) rfl T
theorem t_L_law_289 {h : Hp} {P : Value → Hp → Prop} {a3 s0 s1 : Int} {a0 : Nat} (T : (rng s1) ∧ (rng s0) ∧ ((s1 = s0 → R 208 18 [.ref a0, .ref 0, .ref 400, .int (I (a3 + 7))] [] h P) ∧ (¬ s1 = s0 → P (.int (I 0)) h))) : R 208 289 [.ref a0, .ref 0, .ref 400, .int (I a3)] [.int (I s0), .int (I s1)] h P := by
  obtain ⟨g1, T⟩ := T
  obtain ⟨g2, T⟩ := T
  refine R_ic_eq (Dat dd_L_law_c1 33 rfl) rfl g1 g2 (fun c => ?_) (fun c => ?_)
  · replace T := T.1 c
    refine R_iinc (Dat dd_L_law_c19 44 rfl) rfl rfl rfl ?_
    refine R_goto (Dat dd_L_law_c19 45 rfl) rfl ?_
    exact T
  · replace T := T.2 c
    refine R_iconst (Dat dd_L_law_c1 34 rfl) ?_
    exact R_ireturn (Dat dd_L_law_c1 35 rfl) rfl T
theorem t_L_law_312 {h : Hp} {P : Value → Hp → Prop} {a3 s0 s1 : Int} {a0 : Nat} (T : (rng s1) ∧ (rng s0) ∧ ((s1 = s0 → R 208 18 [.ref a0, .ref 0, .ref 400, .int (I (a3 + 7))] [] h P) ∧ (¬ s1 = s0 → P (.int (I 0)) h))) : R 208 312 [.ref a0, .ref 0, .ref 400, .int (I a3)] [.int (I s0), .int (I s1)] h P := by
  obtain ⟨g1, T⟩ := T
  obtain ⟨g2, T⟩ := T
  refine R_ic_eq (Dat dd_L_law_c1 50 rfl) rfl g1 g2 (fun c => ?_) (fun c => ?_)
  · replace T := T.1 c
    refine R_iinc (Dat dd_L_law_c19 44 rfl) rfl rfl rfl ?_
    refine R_goto (Dat dd_L_law_c19 45 rfl) rfl ?_
    exact T
  · replace T := T.2 c
    refine R_iconst (Dat dd_L_law_c1 51 rfl) ?_
    exact R_ireturn (Dat dd_L_law_c1 52 rfl) rfl T
theorem t_L_law_325 {h : Hp} {P : Value → Hp → Prop} {a3 s0 s1 : Int} {a0 : Nat} (T : (rng s1) ∧ (rng s0) ∧ ((s1 = s0 → R 208 18 [.ref a0, .ref 0, .ref 400, .int (I (a3 + 7))] [] h P) ∧ (¬ s1 = s0 → P (.int (I 0)) h))) : R 208 325 [.ref a0, .ref 0, .ref 400, .int (I a3)] [.int (I s0), .int (I s1)] h P := by
  obtain ⟨g1, T⟩ := T
  obtain ⟨g2, T⟩ := T
  refine R_ic_eq (Dat dd_L_law_c1 57 rfl) rfl g1 g2 (fun c => ?_) (fun c => ?_)
  · replace T := T.1 c
    refine R_iinc (Dat dd_L_law_c19 44 rfl) rfl rfl rfl ?_
    refine R_goto (Dat dd_L_law_c19 45 rfl) rfl ?_
    exact T
  · replace T := T.2 c
    refine R_iconst (Dat dd_L_law_c1 58 rfl) ?_
    exact R_ireturn (Dat dd_L_law_c1 59 rfl) rfl T
theorem t_L_law_348 {h : Hp} {P : Value → Hp → Prop} {a3 s0 s1 : Int} {a0 : Nat} (T : (rng s1) ∧ (rng s0) ∧ ((s1 = s0 → R 208 18 [.ref a0, .ref 0, .ref 400, .int (I (a3 + 7))] [] h P) ∧ (¬ s1 = s0 → P (.int (I 0)) h))) : R 208 348 [.ref a0, .ref 0, .ref 400, .int (I a3)] [.int (I s0), .int (I s1)] h P := by
  obtain ⟨g1, T⟩ := T
  obtain ⟨g2, T⟩ := T
  refine R_ic_eq (Dat dd_L_law_c2 14 rfl) rfl g1 g2 (fun c => ?_) (fun c => ?_)
  · replace T := T.1 c
    refine R_iinc (Dat dd_L_law_c19 44 rfl) rfl rfl rfl ?_
    refine R_goto (Dat dd_L_law_c19 45 rfl) rfl ?_
    exact T
  · replace T := T.2 c
    refine R_iconst (Dat dd_L_law_c2 15 rfl) ?_
    exact R_ireturn (Dat dd_L_law_c2 16 rfl) rfl T
theorem t_L_law_381 {h : Hp} {P : Value → Hp → Prop} {a3 s0 s1 : Int} {a0 : Nat} (T : (rng s1) ∧ (rng s0) ∧ ((s1 = s0 → R 208 18 [.ref a0, .ref 0, .ref 400, .int (I (a3 + 7))] [] h P) ∧ (¬ s1 = s0 → P (.int (I 0)) h))) : R 208 381 [.ref a0, .ref 0, .ref 400, .int (I a3)] [.int (I s0), .int (I s1)] h P := by
  obtain ⟨g1, T⟩ := T
  obtain ⟨g2, T⟩ := T
  refine R_ic_eq (Dat dd_L_law_c2 41 rfl) rfl g1 g2 (fun c => ?_) (fun c => ?_)
  · replace T := T.1 c
    refine R_iinc (Dat dd_L_law_c19 44 rfl) rfl rfl rfl ?_
    refine R_goto (Dat dd_L_law_c19 45 rfl) rfl ?_
    exact T
  · replace T := T.2 c
    refine R_iconst (Dat dd_L_law_c2 42 rfl) ?_
    exact R_ireturn (Dat dd_L_law_c2 43 rfl) rfl T
theorem t_L_law_434 {h : Hp} {P : Value → Hp → Prop} {a3 s0 s1 : Int} {a0 : Nat} (T : (rng s1) ∧ (rng s0) ∧ ((s1 = s0 → R 208 18 [.ref a0, .ref 0, .ref 400, .int (I (a3 + 7))] [] h P) ∧ (¬ s1 = s0 → P (.int (I 0)) h))) : R 208 434 [.ref a0, .ref 0, .ref 400, .int (I a3)] [.int (I s0), .int (I s1)] h P := by
  obtain ⟨g1, T⟩ := T
  obtain ⟨g2, T⟩ := T
  refine R_ic_eq (Dat dd_L_law_c3 28 rfl) rfl g1 g2 (fun c => ?_) (fun c => ?_)
  · replace T := T.1 c
    refine R_iinc (Dat dd_L_law_c19 44 rfl) rfl rfl rfl ?_
    refine R_goto (Dat dd_L_law_c19 45 rfl) rfl ?_
    exact T
  · replace T := T.2 c
    refine R_iconst (Dat dd_L_law_c3 29 rfl) ?_
    exact R_ireturn (Dat dd_L_law_c3 30 rfl) rfl T
theorem t_L_law_477 {h : Hp} {P : Value → Hp → Prop} {a3 s0 s1 : Int} {a0 : Nat} (T : (rng s1) ∧ (rng s0) ∧ ((s1 = s0 → R 208 18 [.ref a0, .ref 0, .ref 400, .int (I (a3 + 7))] [] h P) ∧ (¬ s1 = s0 → P (.int (I 0)) h))) : R 208 477 [.ref a0, .ref 0, .ref 400, .int (I a3)] [.int (I s0), .int (I s1)] h P := by
  obtain ⟨g1, T⟩ := T
  obtain ⟨g2, T⟩ := T
  refine R_ic_eq (Dat dd_L_law_c4 5 rfl) rfl g1 g2 (fun c => ?_) (fun c => ?_)
  · replace T := T.1 c
    refine R_iinc (Dat dd_L_law_c19 44 rfl) rfl rfl rfl ?_
    refine R_goto (Dat dd_L_law_c19 45 rfl) rfl ?_
    exact T
  · replace T := T.2 c
    refine R_iconst (Dat dd_L_law_c4 6 rfl) ?_
    exact R_ireturn (Dat dd_L_law_c4 7 rfl) rfl T
theorem t_L_law_500 {h : Hp} {P : Value → Hp → Prop} {a3 s0 s1 : Int} {a0 : Nat} (T : (rng s1) ∧ (rng s0) ∧ ((s1 = s0 → R 208 18 [.ref a0, .ref 0, .ref 400, .int (I (a3 + 7))] [] h P) ∧ (¬ s1 = s0 → P (.int (I 0)) h))) : R 208 500 [.ref a0, .ref 0, .ref 400, .int (I a3)] [.int (I s0), .int (I s1)] h P := by
  obtain ⟨g1, T⟩ := T
  obtain ⟨g2, T⟩ := T
  refine R_ic_eq (Dat dd_L_law_c4 22 rfl) rfl g1 g2 (fun c => ?_) (fun c => ?_)
  · replace T := T.1 c
    refine R_iinc (Dat dd_L_law_c19 44 rfl) rfl rfl rfl ?_
    refine R_goto (Dat dd_L_law_c19 45 rfl) rfl ?_
    exact T
  · replace T := T.2 c
    refine R_iconst (Dat dd_L_law_c4 23 rfl) ?_
    exact R_ireturn (Dat dd_L_law_c4 24 rfl) rfl T
theorem t_L_law_553 {h : Hp} {P : Value → Hp → Prop} {a3 s0 s1 : Int} {a0 : Nat} (T : (rng s1) ∧ (rng s0) ∧ ((s1 = s0 → R 208 18 [.ref a0, .ref 0, .ref 400, .int (I (a3 + 7))] [] h P) ∧ (¬ s1 = s0 → P (.int (I 0)) h))) : R 208 553 [.ref a0, .ref 0, .ref 400, .int (I a3)] [.int (I s0), .int (I s1)] h P := by
  obtain ⟨g1, T⟩ := T
  obtain ⟨g2, T⟩ := T
  refine R_ic_eq (Dat dd_L_law_c5 9 rfl) rfl g1 g2 (fun c => ?_) (fun c => ?_)
  · replace T := T.1 c
    refine R_iinc (Dat dd_L_law_c19 44 rfl) rfl rfl rfl ?_
    refine R_goto (Dat dd_L_law_c19 45 rfl) rfl ?_
    exact T
  · replace T := T.2 c
    refine R_iconst (Dat dd_L_law_c5 10 rfl) ?_
    exact R_ireturn (Dat dd_L_law_c5 11 rfl) rfl T
theorem t_L_law_586 {h : Hp} {P : Value → Hp → Prop} {a3 s0 s1 : Int} {a0 : Nat} (T : (rng s1) ∧ (rng s0) ∧ ((s1 = s0 → R 208 18 [.ref a0, .ref 0, .ref 400, .int (I (a3 + 7))] [] h P) ∧ (¬ s1 = s0 → P (.int (I 0)) h))) : R 208 586 [.ref a0, .ref 0, .ref 400, .int (I a3)] [.int (I s0), .int (I s1)] h P := by
  obtain ⟨g1, T⟩ := T
  obtain ⟨g2, T⟩ := T
  refine R_ic_eq (Dat dd_L_law_c5 36 rfl) rfl g1 g2 (fun c => ?_) (fun c => ?_)
  · replace T := T.1 c
    refine R_iinc (Dat dd_L_law_c19 44 rfl) rfl rfl rfl ?_
    refine R_goto (Dat dd_L_law_c19 45 rfl) rfl ?_
    exact T
  · replace T := T.2 c
    refine R_iconst (Dat dd_L_law_c5 37 rfl) ?_
    exact R_ireturn (Dat dd_L_law_c5 38 rfl) rfl T
theorem t_L_law_639 {h : Hp} {P : Value → Hp → Prop} {a3 s0 s1 : Int} {a0 : Nat} (T : (rng s1) ∧ (rng s0) ∧ ((s1 = s0 → R 208 18 [.ref a0, .ref 0, .ref 400, .int (I (a3 + 7))] [] h P) ∧ (¬ s1 = s0 → P (.int (I 0)) h))) : R 208 639 [.ref a0, .ref 0, .ref 400, .int (I a3)] [.int (I s0), .int (I s1)] h P := by
  obtain ⟨g1, T⟩ := T
  obtain ⟨g2, T⟩ := T
  refine R_ic_eq (Dat dd_L_law_c6 23 rfl) rfl g1 g2 (fun c => ?_) (fun c => ?_)
  · replace T := T.1 c
    refine R_iinc (Dat dd_L_law_c19 44 rfl) rfl rfl rfl ?_
    refine R_goto (Dat dd_L_law_c19 45 rfl) rfl ?_
    exact T
  · replace T := T.2 c
    refine R_iconst (Dat dd_L_law_c6 24 rfl) ?_
    exact R_ireturn (Dat dd_L_law_c6 25 rfl) rfl T
theorem t_L_law_652 {h : Hp} {P : Value → Hp → Prop} {a3 s0 s1 : Int} {a0 : Nat} (T : (rng s1) ∧ (rng s0) ∧ ((s1 = s0 → R 208 18 [.ref a0, .ref 0, .ref 400, .int (I (a3 + 7))] [] h P) ∧ (¬ s1 = s0 → P (.int (I 0)) h))) : R 208 652 [.ref a0, .ref 0, .ref 400, .int (I a3)] [.int (I s0), .int (I s1)] h P := by
  obtain ⟨g1, T⟩ := T
  obtain ⟨g2, T⟩ := T
  refine R_ic_eq (Dat dd_L_law_c6 30 rfl) rfl g1 g2 (fun c => ?_) (fun c => ?_)
  · replace T := T.1 c
    refine R_iinc (Dat dd_L_law_c19 44 rfl) rfl rfl rfl ?_
    refine R_goto (Dat dd_L_law_c19 45 rfl) rfl ?_
    exact T
  · replace T := T.2 c
    refine R_iconst (Dat dd_L_law_c6 31 rfl) ?_
    exact R_ireturn (Dat dd_L_law_c6 32 rfl) rfl T
theorem t_L_law_665 {h : Hp} {P : Value → Hp → Prop} {a3 s0 s1 : Int} {a0 : Nat} (T : (rng s1) ∧ (rng s0) ∧ ((s1 = s0 → R 208 18 [.ref a0, .ref 0, .ref 400, .int (I (a3 + 7))] [] h P) ∧ (¬ s1 = s0 → P (.int (I 0)) h))) : R 208 665 [.ref a0, .ref 0, .ref 400, .int (I a3)] [.int (I s0), .int (I s1)] h P := by
  obtain ⟨g1, T⟩ := T
  obtain ⟨g2, T⟩ := T
  refine R_ic_eq (Dat dd_L_law_c6 37 rfl) rfl g1 g2 (fun c => ?_) (fun c => ?_)
  · replace T := T.1 c
    refine R_iinc (Dat dd_L_law_c19 44 rfl) rfl rfl rfl ?_
    refine R_goto (Dat dd_L_law_c19 45 rfl) rfl ?_
    exact T
  · replace T := T.2 c
    refine R_iconst (Dat dd_L_law_c6 38 rfl) ?_
    exact R_ireturn (Dat dd_L_law_c6 39 rfl) rfl T
theorem t_L_law_698 {h : Hp} {P : Value → Hp → Prop} {a3 s0 s1 : Int} {a0 : Nat} (T : (rng s1) ∧ (rng s0) ∧ ((s1 = s0 → R 208 18 [.ref a0, .ref 0, .ref 400, .int (I (a3 + 7))] [] h P) ∧ (¬ s1 = s0 → P (.int (I 0)) h))) : R 208 698 [.ref a0, .ref 0, .ref 400, .int (I a3)] [.int (I s0), .int (I s1)] h P := by
  obtain ⟨g1, T⟩ := T
  obtain ⟨g2, T⟩ := T
  refine R_ic_eq (Dat dd_L_law_c7 4 rfl) rfl g1 g2 (fun c => ?_) (fun c => ?_)
  · replace T := T.1 c
    refine R_iinc (Dat dd_L_law_c19 44 rfl) rfl rfl rfl ?_
    refine R_goto (Dat dd_L_law_c19 45 rfl) rfl ?_
    exact T
  · replace T := T.2 c
    refine R_iconst (Dat dd_L_law_c7 5 rfl) ?_
    exact R_ireturn (Dat dd_L_law_c7 6 rfl) rfl T
theorem t_L_law_741 {h : Hp} {P : Value → Hp → Prop} {a3 s0 s1 : Int} {a0 : Nat} (T : (rng s1) ∧ (rng s0) ∧ ((s1 = s0 → R 208 18 [.ref a0, .ref 0, .ref 400, .int (I (a3 + 7))] [] h P) ∧ (¬ s1 = s0 → P (.int (I 0)) h))) : R 208 741 [.ref a0, .ref 0, .ref 400, .int (I a3)] [.int (I s0), .int (I s1)] h P := by
  obtain ⟨g1, T⟩ := T
  obtain ⟨g2, T⟩ := T
  refine R_ic_eq (Dat dd_L_law_c7 41 rfl) rfl g1 g2 (fun c => ?_) (fun c => ?_)
  · replace T := T.1 c
    refine R_iinc (Dat dd_L_law_c19 44 rfl) rfl rfl rfl ?_
    refine R_goto (Dat dd_L_law_c19 45 rfl) rfl ?_
    exact T
  · replace T := T.2 c
    refine R_iconst (Dat dd_L_law_c7 42 rfl) ?_
    exact R_ireturn (Dat dd_L_law_c7 43 rfl) rfl T
theorem t_L_law_784 {h : Hp} {P : Value → Hp → Prop} {a3 s0 s1 : Int} {a0 : Nat} (T : (rng s1) ∧ (rng s0) ∧ ((s1 = s0 → R 208 18 [.ref a0, .ref 0, .ref 400, .int (I (a3 + 7))] [] h P) ∧ (¬ s1 = s0 → P (.int (I 0)) h))) : R 208 784 [.ref a0, .ref 0, .ref 400, .int (I a3)] [.int (I s0), .int (I s1)] h P := by
  obtain ⟨g1, T⟩ := T
  obtain ⟨g2, T⟩ := T
  refine R_ic_eq (Dat dd_L_law_c8 18 rfl) rfl g1 g2 (fun c => ?_) (fun c => ?_)
  · replace T := T.1 c
    refine R_iinc (Dat dd_L_law_c19 44 rfl) rfl rfl rfl ?_
    refine R_goto (Dat dd_L_law_c19 45 rfl) rfl ?_
    exact T
  · replace T := T.2 c
    refine R_iconst (Dat dd_L_law_c8 19 rfl) ?_
    exact R_ireturn (Dat dd_L_law_c8 20 rfl) rfl T
theorem t_L_law_827 {h : Hp} {P : Value → Hp → Prop} {a3 s0 s1 : Int} {a0 : Nat} (T : (rng s1) ∧ (rng s0) ∧ ((s1 = s0 → R 208 18 [.ref a0, .ref 0, .ref 400, .int (I (a3 + 7))] [] h P) ∧ (¬ s1 = s0 → P (.int (I 0)) h))) : R 208 827 [.ref a0, .ref 0, .ref 400, .int (I a3)] [.int (I s0), .int (I s1)] h P := by
  obtain ⟨g1, T⟩ := T
  obtain ⟨g2, T⟩ := T
  refine R_ic_eq (Dat dd_L_law_c8 55 rfl) rfl g1 g2 (fun c => ?_) (fun c => ?_)
  · replace T := T.1 c
    refine R_iinc (Dat dd_L_law_c19 44 rfl) rfl rfl rfl ?_
    refine R_goto (Dat dd_L_law_c19 45 rfl) rfl ?_
    exact T
  · replace T := T.2 c
    refine R_iconst (Dat dd_L_law_c8 56 rfl) ?_
    exact R_ireturn (Dat dd_L_law_c8 57 rfl) rfl T
theorem t_L_law_860 {h : Hp} {P : Value → Hp → Prop} {a3 s0 s1 : Int} {a0 : Nat} (T : (rng s1) ∧ (rng s0) ∧ ((s1 = s0 → R 208 18 [.ref a0, .ref 0, .ref 400, .int (I (a3 + 7))] [] h P) ∧ (¬ s1 = s0 → P (.int (I 0)) h))) : R 208 860 [.ref a0, .ref 0, .ref 400, .int (I a3)] [.int (I s0), .int (I s1)] h P := by
  obtain ⟨g1, T⟩ := T
  obtain ⟨g2, T⟩ := T
  refine R_ic_eq (Dat dd_L_law_c9 22 rfl) rfl g1 g2 (fun c => ?_) (fun c => ?_)
  · replace T := T.1 c
    refine R_iinc (Dat dd_L_law_c19 44 rfl) rfl rfl rfl ?_
    refine R_goto (Dat dd_L_law_c19 45 rfl) rfl ?_
    exact T
  · replace T := T.2 c
    refine R_iconst (Dat dd_L_law_c9 23 rfl) ?_
    exact R_ireturn (Dat dd_L_law_c9 24 rfl) rfl T
theorem t_L_law_903 {h : Hp} {P : Value → Hp → Prop} {a3 s0 s1 : Int} {a0 : Nat} (T : (rng s1) ∧ (rng s0) ∧ ((s1 = s0 → R 208 18 [.ref a0, .ref 0, .ref 400, .int (I (a3 + 7))] [] h P) ∧ (¬ s1 = s0 → P (.int (I 0)) h))) : R 208 903 [.ref a0, .ref 0, .ref 400, .int (I a3)] [.int (I s0), .int (I s1)] h P := by
  obtain ⟨g1, T⟩ := T
  obtain ⟨g2, T⟩ := T
  refine R_ic_eq (Dat dd_L_law_c9 59 rfl) rfl g1 g2 (fun c => ?_) (fun c => ?_)
  · replace T := T.1 c
    refine R_iinc (Dat dd_L_law_c19 44 rfl) rfl rfl rfl ?_
    refine R_goto (Dat dd_L_law_c19 45 rfl) rfl ?_
    exact T
  · replace T := T.2 c
    refine R_iconst (Dat dd_L_law_c10 0 rfl) ?_
    exact R_ireturn (Dat dd_L_law_c10 1 rfl) rfl T
theorem t_L_law_946 {h : Hp} {P : Value → Hp → Prop} {a3 s0 s1 : Int} {a0 : Nat} (T : (rng s1) ∧ (rng s0) ∧ ((s1 = s0 → R 208 18 [.ref a0, .ref 0, .ref 400, .int (I (a3 + 7))] [] h P) ∧ (¬ s1 = s0 → P (.int (I 0)) h))) : R 208 946 [.ref a0, .ref 0, .ref 400, .int (I a3)] [.int (I s0), .int (I s1)] h P := by
  obtain ⟨g1, T⟩ := T
  obtain ⟨g2, T⟩ := T
  refine R_ic_eq (Dat dd_L_law_c10 36 rfl) rfl g1 g2 (fun c => ?_) (fun c => ?_)
  · replace T := T.1 c
    refine R_iinc (Dat dd_L_law_c19 44 rfl) rfl rfl rfl ?_
    refine R_goto (Dat dd_L_law_c19 45 rfl) rfl ?_
    exact T
  · replace T := T.2 c
    refine R_iconst (Dat dd_L_law_c10 37 rfl) ?_
    exact R_ireturn (Dat dd_L_law_c10 38 rfl) rfl T
theorem t_L_law_989 {h : Hp} {P : Value → Hp → Prop} {a3 s0 s1 : Int} {a0 : Nat} (T : (rng s1) ∧ (rng s0) ∧ ((s1 = s0 → R 208 18 [.ref a0, .ref 0, .ref 400, .int (I (a3 + 7))] [] h P) ∧ (¬ s1 = s0 → P (.int (I 0)) h))) : R 208 989 [.ref a0, .ref 0, .ref 400, .int (I a3)] [.int (I s0), .int (I s1)] h P := by
  obtain ⟨g1, T⟩ := T
  obtain ⟨g2, T⟩ := T
  refine R_ic_eq (Dat dd_L_law_c11 13 rfl) rfl g1 g2 (fun c => ?_) (fun c => ?_)
  · replace T := T.1 c
    refine R_iinc (Dat dd_L_law_c19 44 rfl) rfl rfl rfl ?_
    refine R_goto (Dat dd_L_law_c19 45 rfl) rfl ?_
    exact T
  · replace T := T.2 c
    refine R_iconst (Dat dd_L_law_c11 14 rfl) ?_
    exact R_ireturn (Dat dd_L_law_c11 15 rfl) rfl T
theorem t_L_law_1012 {h : Hp} {P : Value → Hp → Prop} {a3 s0 s1 : Int} {a0 : Nat} (T : (rng s1) ∧ (rng s0) ∧ ((s1 = s0 → R 208 18 [.ref a0, .ref 0, .ref 400, .int (I (a3 + 7))] [] h P) ∧ (¬ s1 = s0 → P (.int (I 0)) h))) : R 208 1012 [.ref a0, .ref 0, .ref 400, .int (I a3)] [.int (I s0), .int (I s1)] h P := by
  obtain ⟨g1, T⟩ := T
  obtain ⟨g2, T⟩ := T
  refine R_ic_eq (Dat dd_L_law_c11 30 rfl) rfl g1 g2 (fun c => ?_) (fun c => ?_)
  · replace T := T.1 c
    refine R_iinc (Dat dd_L_law_c19 44 rfl) rfl rfl rfl ?_
    refine R_goto (Dat dd_L_law_c19 45 rfl) rfl ?_
    exact T
  · replace T := T.2 c
    refine R_iconst (Dat dd_L_law_c11 31 rfl) ?_
    exact R_ireturn (Dat dd_L_law_c11 32 rfl) rfl T
theorem t_L_law_1065 {h : Hp} {P : Value → Hp → Prop} {a3 s0 s1 : Int} {a0 : Nat} (T : (rng (lcp s1 s0)) ∧ (((lcp s1 s0) = 0 → R 208 18 [.ref a0, .ref 0, .ref 400, .int (I (a3 + 7))] [] h P) ∧ (¬ (lcp s1 s0) = 0 → P (.int (I 0)) h))) : R 208 1065 [.ref a0, .ref 0, .ref 400, .int (I a3)] [.long (J s0), .long (J s1)] h P := by
  refine R_lcmp (Dat dd_L_law_c12 17 rfl) ?_
  obtain ⟨g1, T⟩ := T
  refine R_if_eq (Dat dd_L_law_c12 18 rfl) rfl g1  (fun c => ?_) (fun c => ?_)
  · replace T := T.1 c
    refine R_iinc (Dat dd_L_law_c19 44 rfl) rfl rfl rfl ?_
    refine R_goto (Dat dd_L_law_c19 45 rfl) rfl ?_
    exact T
  · replace T := T.2 c
    refine R_iconst (Dat dd_L_law_c12 19 rfl) ?_
    exact R_ireturn (Dat dd_L_law_c12 20 rfl) rfl T
theorem t_L_law_1099 {h : Hp} {P : Value → Hp → Prop} {a3 s0 s1 : Int} {a0 : Nat} (T : (rng s1) ∧ (rng s0) ∧ ((s1 = s0 → R 208 18 [.ref a0, .ref 0, .ref 400, .int (I (a3 + 7))] [] h P) ∧ (¬ s1 = s0 → P (.int (I 0)) h))) : R 208 1099 [.ref a0, .ref 0, .ref 400, .int (I a3)] [.int (I s0), .int (I s1)] h P := by
  obtain ⟨g1, T⟩ := T
  obtain ⟨g2, T⟩ := T
  refine R_ic_eq (Dat dd_L_law_c12 45 rfl) rfl g1 g2 (fun c => ?_) (fun c => ?_)
  · replace T := T.1 c
    refine R_iinc (Dat dd_L_law_c19 44 rfl) rfl rfl rfl ?_
    refine R_goto (Dat dd_L_law_c19 45 rfl) rfl ?_
    exact T
  · replace T := T.2 c
    refine R_iconst (Dat dd_L_law_c12 46 rfl) ?_
    exact R_ireturn (Dat dd_L_law_c12 47 rfl) rfl T
theorem t_L_law_1122 {h : Hp} {P : Value → Hp → Prop} {a3 s0 s1 : Int} {a0 : Nat} (T : (rng s1) ∧ (rng s0) ∧ ((s1 = s0 → R 208 18 [.ref a0, .ref 0, .ref 400, .int (I (a3 + 7))] [] h P) ∧ (¬ s1 = s0 → P (.int (I 0)) h))) : R 208 1122 [.ref a0, .ref 0, .ref 400, .int (I a3)] [.int (I s0), .int (I s1)] h P := by
  obtain ⟨g1, T⟩ := T
  obtain ⟨g2, T⟩ := T
  refine R_ic_eq (Dat dd_L_law_c13 2 rfl) rfl g1 g2 (fun c => ?_) (fun c => ?_)
  · replace T := T.1 c
    refine R_iinc (Dat dd_L_law_c19 44 rfl) rfl rfl rfl ?_
    refine R_goto (Dat dd_L_law_c19 45 rfl) rfl ?_
    exact T
  · replace T := T.2 c
    refine R_iconst (Dat dd_L_law_c13 3 rfl) ?_
    exact R_ireturn (Dat dd_L_law_c13 4 rfl) rfl T
theorem t_L_law_1155 {h : Hp} {P : Value → Hp → Prop} {a3 s0 s1 : Int} {a0 : Nat} (T : (rng s1) ∧ (rng s0) ∧ ((s1 = s0 → R 208 18 [.ref a0, .ref 0, .ref 400, .int (I (a3 + 7))] [] h P) ∧ (¬ s1 = s0 → P (.int (I 0)) h))) : R 208 1155 [.ref a0, .ref 0, .ref 400, .int (I a3)] [.int (I s0), .int (I s1)] h P := by
  obtain ⟨g1, T⟩ := T
  obtain ⟨g2, T⟩ := T
  refine R_ic_eq (Dat dd_L_law_c13 29 rfl) rfl g1 g2 (fun c => ?_) (fun c => ?_)
  · replace T := T.1 c
    refine R_iinc (Dat dd_L_law_c19 44 rfl) rfl rfl rfl ?_
    refine R_goto (Dat dd_L_law_c19 45 rfl) rfl ?_
    exact T
  · replace T := T.2 c
    refine R_iconst (Dat dd_L_law_c13 30 rfl) ?_
    exact R_ireturn (Dat dd_L_law_c13 31 rfl) rfl T
theorem t_L_law_1230 {h : Hp} {P : Value → Hp → Prop} {a3 s0 s1 : Int} {a0 : Nat} (T : (rng s1) ∧ (rng s0) ∧ ((s1 = s0 → R 208 18 [.ref a0, .ref 0, .ref 400, .int (I (a3 + 7))] [] h P) ∧ (¬ s1 = s0 → P (.int (I 0)) h))) : R 208 1230 [.ref a0, .ref 0, .ref 400, .int (I a3)] [.int (I s0), .int (I s1)] h P := by
  obtain ⟨g1, T⟩ := T
  obtain ⟨g2, T⟩ := T
  refine R_ic_eq (Dat dd_L_law_c14 36 rfl) rfl g1 g2 (fun c => ?_) (fun c => ?_)
  · replace T := T.1 c
    refine R_iinc (Dat dd_L_law_c19 44 rfl) rfl rfl rfl ?_
    refine R_goto (Dat dd_L_law_c19 45 rfl) rfl ?_
    exact T
  · replace T := T.2 c
    refine R_iconst (Dat dd_L_law_c14 37 rfl) ?_
    exact R_ireturn (Dat dd_L_law_c14 38 rfl) rfl T
theorem t_L_law_1263 {h : Hp} {P : Value → Hp → Prop} {a3 s0 s1 : Int} {a0 : Nat} (T : (rng s1) ∧ (rng s0) ∧ ((s1 = s0 → R 208 18 [.ref a0, .ref 0, .ref 400, .int (I (a3 + 7))] [] h P) ∧ (¬ s1 = s0 → P (.int (I 0)) h))) : R 208 1263 [.ref a0, .ref 0, .ref 400, .int (I a3)] [.int (I s0), .int (I s1)] h P := by
  obtain ⟨g1, T⟩ := T
  obtain ⟨g2, T⟩ := T
  refine R_ic_eq (Dat dd_L_law_c15 3 rfl) rfl g1 g2 (fun c => ?_) (fun c => ?_)
  · replace T := T.1 c
    refine R_iinc (Dat dd_L_law_c19 44 rfl) rfl rfl rfl ?_
    refine R_goto (Dat dd_L_law_c19 45 rfl) rfl ?_
    exact T
  · replace T := T.2 c
    refine R_iconst (Dat dd_L_law_c15 4 rfl) ?_
    exact R_ireturn (Dat dd_L_law_c15 5 rfl) rfl T
theorem t_L_law_1306 {h : Hp} {P : Value → Hp → Prop} {a3 s0 s1 : Int} {a0 : Nat} (T : (rng s1) ∧ (rng s0) ∧ ((s1 = s0 → R 208 18 [.ref a0, .ref 0, .ref 400, .int (I (a3 + 7))] [] h P) ∧ (¬ s1 = s0 → P (.int (I 0)) h))) : R 208 1306 [.ref a0, .ref 0, .ref 400, .int (I a3)] [.int (I s0), .int (I s1)] h P := by
  obtain ⟨g1, T⟩ := T
  obtain ⟨g2, T⟩ := T
  refine R_ic_eq (Dat dd_L_law_c15 40 rfl) rfl g1 g2 (fun c => ?_) (fun c => ?_)
  · replace T := T.1 c
    refine R_iinc (Dat dd_L_law_c19 44 rfl) rfl rfl rfl ?_
    refine R_goto (Dat dd_L_law_c19 45 rfl) rfl ?_
    exact T
  · replace T := T.2 c
    refine R_iconst (Dat dd_L_law_c15 41 rfl) ?_
    exact R_ireturn (Dat dd_L_law_c15 42 rfl) rfl T
theorem t_L_law_1329 {h : Hp} {P : Value → Hp → Prop} {a3 s0 s1 : Int} {a0 : Nat} (T : (rng s1) ∧ (rng s0) ∧ ((s1 = s0 → R 208 18 [.ref a0, .ref 0, .ref 400, .int (I (a3 + 7))] [] h P) ∧ (¬ s1 = s0 → P (.int (I 0)) h))) : R 208 1329 [.ref a0, .ref 0, .ref 400, .int (I a3)] [.int (I s0), .int (I s1)] h P := by
  obtain ⟨g1, T⟩ := T
  obtain ⟨g2, T⟩ := T
  refine R_ic_eq (Dat dd_L_law_c15 57 rfl) rfl g1 g2 (fun c => ?_) (fun c => ?_)
  · replace T := T.1 c
    refine R_iinc (Dat dd_L_law_c19 44 rfl) rfl rfl rfl ?_
    refine R_goto (Dat dd_L_law_c19 45 rfl) rfl ?_
    exact T
  · replace T := T.2 c
    refine R_iconst (Dat dd_L_law_c15 58 rfl) ?_
    exact R_ireturn (Dat dd_L_law_c15 59 rfl) rfl T
theorem t_L_law_1372 {h : Hp} {P : Value → Hp → Prop} {a3 s0 s1 : Int} {a0 : Nat} (T : (rng s1) ∧ (rng s0) ∧ ((s1 = s0 → R 208 18 [.ref a0, .ref 0, .ref 400, .int (I (a3 + 7))] [] h P) ∧ (¬ s1 = s0 → P (.int (I 0)) h))) : R 208 1372 [.ref a0, .ref 0, .ref 400, .int (I a3)] [.int (I s0), .int (I s1)] h P := by
  obtain ⟨g1, T⟩ := T
  obtain ⟨g2, T⟩ := T
  refine R_ic_eq (Dat dd_L_law_c16 34 rfl) rfl g1 g2 (fun c => ?_) (fun c => ?_)
  · replace T := T.1 c
    refine R_iinc (Dat dd_L_law_c19 44 rfl) rfl rfl rfl ?_
    refine R_goto (Dat dd_L_law_c19 45 rfl) rfl ?_
    exact T
  · replace T := T.2 c
    refine R_iconst (Dat dd_L_law_c16 35 rfl) ?_
    exact R_ireturn (Dat dd_L_law_c16 36 rfl) rfl T
theorem t_L_law_1415 {h : Hp} {P : Value → Hp → Prop} {a3 s0 s1 : Int} {a0 : Nat} (T : (rng (lcp s1 s0)) ∧ (((lcp s1 s0) = 0 → R 208 18 [.ref a0, .ref 0, .ref 400, .int (I (a3 + 7))] [] h P) ∧ (¬ (lcp s1 s0) = 0 → P (.int (I 0)) h))) : R 208 1415 [.ref a0, .ref 0, .ref 400, .int (I a3)] [.long (J s0), .long (J s1)] h P := by
  refine R_lcmp (Dat dd_L_law_c17 11 rfl) ?_
  obtain ⟨g1, T⟩ := T
  refine R_if_eq (Dat dd_L_law_c17 12 rfl) rfl g1  (fun c => ?_) (fun c => ?_)
  · replace T := T.1 c
    refine R_iinc (Dat dd_L_law_c19 44 rfl) rfl rfl rfl ?_
    refine R_goto (Dat dd_L_law_c19 45 rfl) rfl ?_
    exact T
  · replace T := T.2 c
    refine R_iconst (Dat dd_L_law_c17 13 rfl) ?_
    exact R_ireturn (Dat dd_L_law_c17 14 rfl) rfl T
theorem t_L_law_1479 {h : Hp} {P : Value → Hp → Prop} {a3 s0 s1 : Int} {a0 : Nat} (T : (rng s1) ∧ (rng s0) ∧ ((s1 = s0 → R 208 18 [.ref a0, .ref 0, .ref 400, .int (I (a3 + 7))] [] h P) ∧ (¬ s1 = s0 → P (.int (I 0)) h))) : R 208 1479 [.ref a0, .ref 0, .ref 400, .int (I a3)] [.int (I s0), .int (I s1)] h P := by
  obtain ⟨g1, T⟩ := T
  obtain ⟨g2, T⟩ := T
  refine R_ic_eq (Dat dd_L_law_c18 9 rfl) rfl g1 g2 (fun c => ?_) (fun c => ?_)
  · replace T := T.1 c
    refine R_iinc (Dat dd_L_law_c19 44 rfl) rfl rfl rfl ?_
    refine R_goto (Dat dd_L_law_c19 45 rfl) rfl ?_
    exact T
  · replace T := T.2 c
    refine R_iconst (Dat dd_L_law_c18 10 rfl) ?_
    exact R_ireturn (Dat dd_L_law_c18 11 rfl) rfl T
theorem t_L_law_1502 {h : Hp} {P : Value → Hp → Prop} {a3 s0 s1 : Int} {a0 : Nat} (T : (rng s1) ∧ (rng s0) ∧ ((s1 = s0 → R 208 18 [.ref a0, .ref 0, .ref 400, .int (I (a3 + 7))] [] h P) ∧ (¬ s1 = s0 → P (.int (I 0)) h))) : R 208 1502 [.ref a0, .ref 0, .ref 400, .int (I a3)] [.int (I s0), .int (I s1)] h P := by
  obtain ⟨g1, T⟩ := T
  obtain ⟨g2, T⟩ := T
  refine R_ic_eq (Dat dd_L_law_c18 26 rfl) rfl g1 g2 (fun c => ?_) (fun c => ?_)
  · replace T := T.1 c
    refine R_iinc (Dat dd_L_law_c19 44 rfl) rfl rfl rfl ?_
    refine R_goto (Dat dd_L_law_c19 45 rfl) rfl ?_
    exact T
  · replace T := T.2 c
    refine R_iconst (Dat dd_L_law_c18 27 rfl) ?_
    exact R_ireturn (Dat dd_L_law_c18 28 rfl) rfl T
theorem t_L_law_1525 {h : Hp} {P : Value → Hp → Prop} {a3 s0 s1 : Int} {a0 : Nat} (T : (rng s1) ∧ (rng s0) ∧ ((s1 = s0 → R 208 18 [.ref a0, .ref 0, .ref 400, .int (I (a3 + 7))] [] h P) ∧ (¬ s1 = s0 → P (.int (I 0)) h))) : R 208 1525 [.ref a0, .ref 0, .ref 400, .int (I a3)] [.int (I s0), .int (I s1)] h P := by
  obtain ⟨g1, T⟩ := T
  obtain ⟨g2, T⟩ := T
  refine R_ic_eq (Dat dd_L_law_c18 43 rfl) rfl g1 g2 (fun c => ?_) (fun c => ?_)
  · replace T := T.1 c
    refine R_iinc (Dat dd_L_law_c19 44 rfl) rfl rfl rfl ?_
    refine R_goto (Dat dd_L_law_c19 45 rfl) rfl ?_
    exact T
  · replace T := T.2 c
    refine R_iconst (Dat dd_L_law_c18 44 rfl) ?_
    exact R_ireturn (Dat dd_L_law_c18 45 rfl) rfl T
theorem t_L_law_1558 {h : Hp} {P : Value → Hp → Prop} {a3 s0 s1 : Int} {a0 : Nat} (T : (rng s1) ∧ (rng s0) ∧ ((s1 = s0 → R 208 18 [.ref a0, .ref 0, .ref 400, .int (I (a3 + 7))] [] h P) ∧ (¬ s1 = s0 → P (.int (I 0)) h))) : R 208 1558 [.ref a0, .ref 0, .ref 400, .int (I a3)] [.int (I s0), .int (I s1)] h P := by
  obtain ⟨g1, T⟩ := T
  obtain ⟨g2, T⟩ := T
  refine R_ic_eq (Dat dd_L_law_c19 10 rfl) rfl g1 g2 (fun c => ?_) (fun c => ?_)
  · replace T := T.1 c
    refine R_iinc (Dat dd_L_law_c19 44 rfl) rfl rfl rfl ?_
    refine R_goto (Dat dd_L_law_c19 45 rfl) rfl ?_
    exact T
  · replace T := T.2 c
    refine R_iconst (Dat dd_L_law_c19 11 rfl) ?_
    exact R_ireturn (Dat dd_L_law_c19 12 rfl) rfl T
theorem t_L_law_1571 {h : Hp} {P : Value → Hp → Prop} {a3 s0 s1 : Int} {a0 : Nat} (T : (rng s1) ∧ (rng s0) ∧ ((s1 = s0 → R 208 18 [.ref a0, .ref 0, .ref 400, .int (I (a3 + 7))] [] h P) ∧ (¬ s1 = s0 → P (.int (I 0)) h))) : R 208 1571 [.ref a0, .ref 0, .ref 400, .int (I a3)] [.int (I s0), .int (I s1)] h P := by
  obtain ⟨g1, T⟩ := T
  obtain ⟨g2, T⟩ := T
  refine R_ic_eq (Dat dd_L_law_c19 17 rfl) rfl g1 g2 (fun c => ?_) (fun c => ?_)
  · replace T := T.1 c
    refine R_iinc (Dat dd_L_law_c19 44 rfl) rfl rfl rfl ?_
    refine R_goto (Dat dd_L_law_c19 45 rfl) rfl ?_
    exact T
  · replace T := T.2 c
    refine R_iconst (Dat dd_L_law_c19 18 rfl) ?_
    exact R_ireturn (Dat dd_L_law_c19 19 rfl) rfl T
theorem t_L_law_1584 {h : Hp} {P : Value → Hp → Prop} {a3 s0 s1 : Int} {a0 : Nat} (T : (rng s1) ∧ (rng s0) ∧ ((s1 = s0 → R 208 18 [.ref a0, .ref 0, .ref 400, .int (I (a3 + 7))] [] h P) ∧ (¬ s1 = s0 → P (.int (I 0)) h))) : R 208 1584 [.ref a0, .ref 0, .ref 400, .int (I a3)] [.int (I s0), .int (I s1)] h P := by
  obtain ⟨g1, T⟩ := T
  obtain ⟨g2, T⟩ := T
  refine R_ic_eq (Dat dd_L_law_c19 24 rfl) rfl g1 g2 (fun c => ?_) (fun c => ?_)
  · replace T := T.1 c
    refine R_iinc (Dat dd_L_law_c19 44 rfl) rfl rfl rfl ?_
    refine R_goto (Dat dd_L_law_c19 45 rfl) rfl ?_
    exact T
  · replace T := T.2 c
    refine R_iconst (Dat dd_L_law_c19 25 rfl) ?_
    exact R_ireturn (Dat dd_L_law_c19 26 rfl) rfl T
theorem t_L_law_1607 {h : Hp} {P : Value → Hp → Prop} {a3 s0 s1 : Int} {a0 : Nat} (T : (rng s1) ∧ (rng s0) ∧ ((s1 = s0 → R 208 18 [.ref a0, .ref 0, .ref 400, .int (I (a3 + 7))] [] h P) ∧ (¬ s1 = s0 → P (.int (I 0)) h))) : R 208 1607 [.ref a0, .ref 0, .ref 400, .int (I a3)] [.int (I s0), .int (I s1)] h P := by
  obtain ⟨g1, T⟩ := T
  obtain ⟨g2, T⟩ := T
  refine R_ic_eq (Dat dd_L_law_c19 41 rfl) rfl g1 g2 (fun c => ?_) (fun c => ?_)
  · replace T := T.1 c
    refine R_iinc (Dat dd_L_law_c19 44 rfl) rfl rfl rfl ?_
    refine R_goto (Dat dd_L_law_c19 45 rfl) rfl ?_
    exact T
  · replace T := T.2 c
    refine R_iconst (Dat dd_L_law_c19 42 rfl) ?_
    exact R_ireturn (Dat dd_L_law_c19 43 rfl) rfl T
