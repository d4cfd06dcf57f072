def dl_L_law : List (Nat × Instr × Nat) := [(0, .new 7, 3), (3, .dup, 1), (4, .invokespecial 9, 3), (7, .astore_n 1, 1), (8, .new 10, 3), (11, .dup, 1), (12, .invokespecial 12, 3), (15, .astore_n 2, 1), (16, .iconst 0, 1), (17, .istore_n 3, 1), (18, .iload_n 3, 1), (19, .aload_n 0, 1), (20, .arraylength, 1), (21, .bipush 7, 2), (23, .isub, 1), (24, .if_icmp .gt 1594, 3), (27, .aload_n 0, 1), (28, .iload_n 3, 1), (29, .iaload, 1), (30, .bipush 63, 2), (32, .iand, 1), (33, .tableswitch 1579 0 39 #[175, 228, 261, 284, 297, 320, 353, 406, 449, 472, 525, 558, 611, 624, 637, 670, 713, 756, 799, 832, 875, 918, 961, 984, 1038, 1071, 1094, 1127, 1202, 1235, 1278, 1301, 1344, 1388, 1451, 1474, 1497, 1530, 1543, 1556], 175), (208, .aload_n 1, 1), (209, .aload_n 0, 1), (210, .iload_n 3, 1), (211, .iconst 1, 1), (212, .iadd, 1), (213, .iaload, 1), (214, .aload_n 0, 1), (215, .iload_n 3, 1), (216, .iconst 2, 1), (217, .iadd, 1), (218, .iaload, 1), (219, .aload_n 0, 1), (220, .iload_n 3, 1), (221, .iconst 3, 1), (222, .iadd, 1), (223, .iaload, 1), (224, .aload_n 0, 1), (225, .iload_n 3, 1), (226, .iconst 4, 1), (227, .iadd, 1), (228, .iaload, 1), (229, .invokevirtual 13, 3), (232, .aload_n 2, 1), (233, .aload_n 0, 1), (234, .iload_n 3, 1), (235, .iconst 1, 1), (236, .iadd, 1), (237, .iaload, 1), (238, .aload_n 0, 1), (239, .iload_n 3, 1), (240, .iconst 2, 1), (241, .iadd, 1), (242, .iaload, 1), (243, .aload_n 0, 1), (244, .iload_n 3, 1), (245, .iconst 3, 1), (246, .iadd, 1), (247, .iaload, 1), (248, .aload_n 0, 1), (249, .iload_n 3, 1), (250, .iconst 4, 1), (251, .iadd, 1), (252, .iaload, 1), (253, .invokevirtual 17, 3), (256, .if_icmp .eq 1356, 3), (259, .iconst 0, 1), (260, .ireturn, 1), (261, .aload_n 1, 1), (262, .aload_n 0, 1), (263, .iload_n 3, 1), (264, .iconst 1, 1), (265, .iadd, 1), (266, .iaload, 1), (267, .aload_n 0, 1), (268, .iload_n 3, 1), (269, .iconst 2, 1), (270, .iadd, 1), (271, .iaload, 1), (272, .invokevirtual 18, 3), (275, .aload_n 2, 1), (276, .aload_n 0, 1), (277, .iload_n 3, 1), (278, .iconst 1, 1), (279, .iadd, 1), (280, .iaload, 1), (281, .aload_n 0, 1), (282, .iload_n 3, 1), (283, .iconst 2, 1), (284, .iadd, 1), (285, .iaload, 1), (286, .invokevirtual 22, 3), (289, .if_icmp .eq 1323, 3), (292, .iconst 0, 1), (293, .ireturn, 1), (294, .aload_n 1, 1), (295, .aload_n 0, 1), (296, .iload_n 3, 1), (297, .iconst 1, 1), (298, .iadd, 1), (299, .iaload, 1), (300, .invokevirtual 23, 3), (303, .aload_n 2, 1), (304, .aload_n 0, 1), (305, .iload_n 3, 1), (306, .iconst 1, 1), (307, .iadd, 1), (308, .iaload, 1), (309, .invokevirtual 27, 3), (312, .if_icmp .eq 1300, 3), (315, .iconst 0, 1), (316, .ireturn, 1), (317, .aload_n 1, 1), (318, .invokevirtual 28, 3), (321, .aload_n 2, 1), (322, .invokevirtual 32, 3), (325, .if_icmp .eq 1287, 3), (328, .iconst 0, 1), (329, .ireturn, 1), (330, .aload_n 1, 1), (331, .aload_n 0, 1), (332, .iload_n 3, 1), (333, .iconst 1, 1), (334, .iadd, 1), (335, .iaload, 1), (336, .invokevirtual 33, 3), (339, .aload_n 2, 1), (340, .aload_n 0, 1), (341, .iload_n 3, 1), (342, .iconst 1, 1), (343, .iadd, 1), (344, .iaload, 1), (345, .invokevirtual 36, 3), (348, .if_icmp .eq 1264, 3), (351, .iconst 0, 1), (352, .ireturn, 1), (353, .aload_n 1, 1), (354, .aload_n 0, 1), (355, .iload_n 3, 1), (356, .iconst 1, 1), (357, .iadd, 1), (358, .iaload, 1), (359, .aload_n 0, 1), (360, .iload_n 3, 1), (361, .iconst 2, 1), (362, .iadd, 1), (363, .iaload, 1), (364, .invokevirtual 37, 3), (367, .aload_n 2, 1), (368, .aload_n 0, 1), (369, .iload_n 3, 1), (370, .iconst 1, 1), (371, .iadd, 1), (372, .iaload, 1), (373, .aload_n 0, 1), (374, .iload_n 3, 1), (375, .iconst 2, 1), (376, .iadd, 1), (377, .iaload, 1), (378, .invokevirtual 40, 3), (381, .if_icmp .eq 1231, 3), (384, .iconst 0, 1), (385, .ireturn, 1), (386, .aload_n 1, 1), (387, .aload_n 0, 1), (388, .iload_n 3, 1), (389, .iconst 1, 1), (390, .iadd, 1), (391, .iaload, 1), (392, .aload_n 0, 1), (393, .iload_n 3, 1), (394, .iconst 2, 1), (395, .iadd, 1), (396, .iaload, 1), (397, .aload_n 0, 1), (398, .iload_n 3, 1), (399, .iconst 3, 1), (400, .iadd, 1), (401, .iaload, 1), (402, .aload_n 0, 1), (403, .iload_n 3, 1), (404, .iconst 4, 1), (405, .iadd, 1), (406, .iaload, 1), (407, .invokevirtual 41, 3), (410, .aload_n 2, 1), (411, .aload_n 0, 1), (412, .iload_n 3, 1), (413, .iconst 1, 1), (414, .iadd, 1), (415, .iaload, 1), (416, .aload_n 0, 1), (417, .iload_n 3, 1), (418, .iconst 2, 1), (419, .iadd, 1), (420, .iaload, 1), (421, .aload_n 0, 1), (422, .iload_n 3, 1), (423, .iconst 3, 1), (424, .iadd, 1), (425, .iaload, 1), (426, .aload_n 0, 1), (427, .iload_n 3, 1), (428, .iconst 4, 1), (429, .iadd, 1), (430, .iaload, 1), (431, .invokevirtual 44, 3), (434, .if_icmp .eq 1178, 3), (437, .iconst 0, 1), (438, .ireturn, 1), (439, .aload_n 1, 1), (440, .aload_n 0, 1), (441, .iload_n 3, 1), (442, .iconst 1, 1), (443, .iadd, 1), (444, .iaload, 1), (445, .aload_n 0, 1), (446, .iload_n 3, 1), (447, .iconst 2, 1), (448, .iadd, 1), (449, .iaload, 1), (450, .aload_n 0, 1), (451, .iload_n 3, 1), (452, .iconst 3, 1), (453, .iadd, 1), (454, .iaload, 1), (455, .invokevirtual 45, 3), (458, .aload_n 2, 1), (459, .aload_n 0, 1), (460, .iload_n 3, 1), (461, .iconst 1, 1), (462, .iadd, 1), (463, .iaload, 1), (464, .aload_n 0, 1), (465, .iload_n 3, 1), (466, .iconst 2, 1), (467, .iadd, 1), (468, .iaload, 1), (469, .aload_n 0, 1), (470, .iload_n 3, 1), (471, .iconst 3, 1), (472, .iadd, 1), (473, .iaload, 1), (474, .invokevirtual 49, 3), (477, .if_icmp .eq 1135, 3), (480, .iconst 0, 1), (481, .ireturn, 1), (482, .aload_n 1, 1), (483, .aload_n 0, 1), (484, .iload_n 3, 1), (485, .iconst 1, 1), (486, .iadd, 1), (487, .iaload, 1), (488, .invokevirtual 50, 3), (491, .aload_n 2, 1), (492, .aload_n 0, 1), (493, .iload_n 3, 1), (494, .iconst 1, 1), (495, .iadd, 1), (496, .iaload, 1), (497, .invokevirtual 53, 3), (500, .if_icmp .eq 1112, 3), (503, .iconst 0, 1), (504, .ireturn, 1), (505, .aload_n 1, 1), (506, .aload_n 0, 1), (507, .iload_n 3, 1), (508, .iconst 1, 1), (509, .iadd, 1), (510, .iaload, 1), (511, .aload_n 0, 1), (512, .iload_n 3, 1), (513, .iconst 2, 1), (514, .iadd, 1), (515, .iaload, 1), (516, .aload_n 0, 1), (517, .iload_n 3, 1), (518, .iconst 3, 1), (519, .iadd, 1), (520, .iaload, 1), (521, .aload_n 0, 1), (522, .iload_n 3, 1), (523, .iconst 4, 1), (524, .iadd, 1), (525, .iaload, 1), (526, .invokevirtual 54, 3), (529, .aload_n 2, 1), (530, .aload_n 0, 1), (531, .iload_n 3, 1), (532, .iconst 1, 1), (533, .iadd, 1), (534, .iaload, 1), (535, .aload_n 0, 1), (536, .iload_n 3, 1), (537, .iconst 2, 1), (538, .iadd, 1), (539, .iaload, 1), (540, .aload_n 0, 1), (541, .iload_n 3, 1), (542, .iconst 3, 1), (543, .iadd, 1), (544, .iaload, 1), (545, .aload_n 0, 1), (546, .iload_n 3, 1), (547, .iconst 4, 1), (548, .iadd, 1), (549, .iaload, 1), (550, .invokevirtual 57, 3), (553, .if_icmp .eq 1059, 3), (556, .iconst 0, 1), (557, .ireturn, 1), (558, .aload_n 1, 1), (559, .aload_n 0, 1), (560, .iload_n 3, 1), (561, .iconst 1, 1), (562, .iadd, 1), (563, .iaload, 1), (564, .aload_n 0, 1), (565, .iload_n 3, 1), (566, .iconst 2, 1), (567, .iadd, 1), (568, .iaload, 1), (569, .invokevirtual 58, 3), (572, .aload_n 2, 1), (573, .aload_n 0, 1), (574, .iload_n 3, 1), (575, .iconst 1, 1), (576, .iadd, 1), (577, .iaload, 1), (578, .aload_n 0, 1), (579, .iload_n 3, 1), (580, .iconst 2, 1), (581, .iadd, 1), (582, .iaload, 1), (583, .invokevirtual 61, 3), (586, .if_icmp .eq 1026, 3), (589, .iconst 0, 1), (590, .ireturn, 1), (591, .aload_n 1, 1), (592, .aload_n 0, 1), (593, .iload_n 3, 1), (594, .iconst 1, 1), (595, .iadd, 1), (596, .iaload, 1), (597, .aload_n 0, 1), (598, .iload_n 3, 1), (599, .iconst 2, 1), (600, .iadd, 1), (601, .iaload, 1), (602, .aload_n 0, 1), (603, .iload_n 3, 1), (604, .iconst 3, 1), (605, .iadd, 1), (606, .iaload, 1), (607, .aload_n 0, 1), (608, .iload_n 3, 1), (609, .iconst 4, 1), (610, .iadd, 1), (611, .iaload, 1), (612, .invokevirtual 62, 3), (615, .aload_n 2, 1), (616, .aload_n 0, 1), (617, .iload_n 3, 1), (618, .iconst 1, 1), (619, .iadd, 1), (620, .iaload, 1), (621, .aload_n 0, 1), (622, .iload_n 3, 1), (623, .iconst 2, 1), (624, .iadd, 1), (625, .iaload, 1), (626, .aload_n 0, 1), (627, .iload_n 3, 1), (628, .iconst 3, 1), (629, .iadd, 1), (630, .iaload, 1), (631, .aload_n 0, 1), (632, .iload_n 3, 1), (633, .iconst 4, 1), (634, .iadd, 1), (635, .iaload, 1), (636, .invokevirtual 65, 3), (639, .if_icmp .eq 973, 3), (642, .iconst 0, 1), (643, .ireturn, 1), (644, .aload_n 1, 1), (645, .invokevirtual 66, 3), (648, .aload_n 2, 1), (649, .invokevirtual 69, 3), (652, .if_icmp .eq 960, 3), (655, .iconst 0, 1), (656, .ireturn, 1), (657, .aload_n 1, 1), (658, .invokevirtual 70, 3), (661, .aload_n 2, 1), (662, .invokevirtual 73, 3), (665, .if_icmp .eq 947, 3), (668, .iconst 0, 1), (669, .ireturn, 1), (670, .aload_n 1, 1), (671, .aload_n 0, 1), (672, .iload_n 3, 1), (673, .iconst 1, 1), (674, .iadd, 1), (675, .iaload, 1), (676, .aload_n 0, 1), (677, .iload_n 3, 1), (678, .iconst 2, 1), (679, .iadd, 1), (680, .iaload, 1), (681, .invokevirtual 74, 3), (684, .aload_n 2, 1), (685, .aload_n 0, 1), (686, .iload_n 3, 1), (687, .iconst 1, 1), (688, .iadd, 1), (689, .iaload, 1), (690, .aload_n 0, 1), (691, .iload_n 3, 1), (692, .iconst 2, 1), (693, .iadd, 1), (694, .iaload, 1), (695, .invokevirtual 77, 3), (698, .if_icmp .eq 914, 3), (701, .iconst 0, 1), (702, .ireturn, 1), (703, .aload_n 1, 1), (704, .aload_n 0, 1), (705, .iload_n 3, 1), (706, .iconst 1, 1), (707, .iadd, 1), (708, .iaload, 1), (709, .aload_n 0, 1), (710, .iload_n 3, 1), (711, .iconst 2, 1), (712, .iadd, 1), (713, .iaload, 1), (714, .aload_n 0, 1), (715, .iload_n 3, 1), (716, .iconst 3, 1), (717, .iadd, 1), (718, .iaload, 1), (719, .invokevirtual 78, 3), (722, .aload_n 2, 1), (723, .aload_n 0, 1), (724, .iload_n 3, 1), (725, .iconst 1, 1), (726, .iadd, 1), (727, .iaload, 1), (728, .aload_n 0, 1), (729, .iload_n 3, 1), (730, .iconst 2, 1), (731, .iadd, 1), (732, .iaload, 1), (733, .aload_n 0, 1), (734, .iload_n 3, 1), (735, .iconst 3, 1), (736, .iadd, 1), (737, .iaload, 1), (738, .invokevirtual 81, 3), (741, .if_icmp .eq 871, 3), (744, .iconst 0, 1), (745, .ireturn, 1), (746, .aload_n 1, 1), (747, .aload_n 0, 1), (748, .iload_n 3, 1), (749, .iconst 1, 1), (750, .iadd, 1), (751, .iaload, 1), (752, .aload_n 0, 1), (753, .iload_n 3, 1), (754, .iconst 2, 1), (755, .iadd, 1), (756, .iaload, 1), (757, .aload_n 0, 1), (758, .iload_n 3, 1), (759, .iconst 3, 1), (760, .iadd, 1), (761, .iaload, 1), (762, .invokevirtual 82, 3), (765, .aload_n 2, 1), (766, .aload_n 0, 1), (767, .iload_n 3, 1), (768, .iconst 1, 1), (769, .iadd, 1), (770, .iaload, 1), (771, .aload_n 0, 1), (772, .iload_n 3, 1), (773, .iconst 2, 1), (774, .iadd, 1), (775, .iaload, 1), (776, .aload_n 0, 1), (777, .iload_n 3, 1), (778, .iconst 3, 1), (779, .iadd, 1), (780, .iaload, 1), (781, .invokevirtual 85, 3), (784, .if_icmp .eq 828, 3), (787, .iconst 0, 1), (788, .ireturn, 1), (789, .aload_n 1, 1), (790, .aload_n 0, 1), (791, .iload_n 3, 1), (792, .iconst 1, 1), (793, .iadd, 1), (794, .iaload, 1), (795, .aload_n 0, 1), (796, .iload_n 3, 1), (797, .iconst 2, 1), (798, .iadd, 1), (799, .iaload, 1), (800, .aload_n 0, 1), (801, .iload_n 3, 1), (802, .iconst 3, 1), (803, .iadd, 1), (804, .iaload, 1), (805, .invokevirtual 86, 3), (808, .aload_n 2, 1), (809, .aload_n 0, 1), (810, .iload_n 3, 1), (811, .iconst 1, 1), (812, .iadd, 1), (813, .iaload, 1), (814, .aload_n 0, 1), (815, .iload_n 3, 1), (816, .iconst 2, 1), (817, .iadd, 1), (818, .iaload, 1), (819, .aload_n 0, 1), (820, .iload_n 3, 1), (821, .iconst 3, 1), (822, .iadd, 1), (823, .iaload, 1), (824, .invokevirtual 89, 3), (827, .if_icmp .eq 785, 3), (830, .iconst 0, 1), (831, .ireturn, 1), (832, .aload_n 1, 1), (833, .aload_n 0, 1), (834, .iload_n 3, 1), (835, .iconst 1, 1), (836, .iadd, 1), (837, .iaload, 1), (838, .aload_n 0, 1), (839, .iload_n 3, 1), (840, .iconst 2, 1), (841, .iadd, 1), (842, .iaload, 1), (843, .invokevirtual 90, 3), (846, .aload_n 2, 1), (847, .aload_n 0, 1), (848, .iload_n 3, 1), (849, .iconst 1, 1), (850, .iadd, 1), (851, .iaload, 1), (852, .aload_n 0, 1), (853, .iload_n 3, 1), (854, .iconst 2, 1), (855, .iadd, 1), (856, .iaload, 1), (857, .invokevirtual 93, 3), (860, .if_icmp .eq 752, 3), (863, .iconst 0, 1), (864, .ireturn, 1), (865, .aload_n 1, 1), (866, .aload_n 0, 1), (867, .iload_n 3, 1), (868, .iconst 1, 1), (869, .iadd, 1), (870, .iaload, 1), (871, .aload_n 0, 1), (872, .iload_n 3, 1), (873, .iconst 2, 1), (874, .iadd, 1), (875, .iaload, 1), (876, .aload_n 0, 1), (877, .iload_n 3, 1), (878, .iconst 3, 1), (879, .iadd, 1), (880, .iaload, 1), (881, .invokevirtual 94, 3), (884, .aload_n 2, 1), (885, .aload_n 0, 1), (886, .iload_n 3, 1), (887, .iconst 1, 1), (888, .iadd, 1), (889, .iaload, 1), (890, .aload_n 0, 1), (891, .iload_n 3, 1), (892, .iconst 2, 1), (893, .iadd, 1), (894, .iaload, 1), (895, .aload_n 0, 1), (896, .iload_n 3, 1), (897, .iconst 3, 1), (898, .iadd, 1), (899, .iaload, 1), (900, .invokevirtual 97, 3), (903, .if_icmp .eq 709, 3), (906, .iconst 0, 1), (907, .ireturn, 1), (908, .aload_n 1, 1), (909, .aload_n 0, 1), (910, .iload_n 3, 1), (911, .iconst 1, 1), (912, .iadd, 1), (913, .iaload, 1), (914, .aload_n 0, 1), (915, .iload_n 3, 1), (916, .iconst 2, 1), (917, .iadd, 1), (918, .iaload, 1), (919, .aload_n 0, 1), (920, .iload_n 3, 1), (921, .iconst 3, 1), (922, .iadd, 1), (923, .iaload, 1), (924, .invokevirtual 98, 3), (927, .aload_n 2, 1), (928, .aload_n 0, 1), (929, .iload_n 3, 1), (930, .iconst 1, 1), (931, .iadd, 1), (932, .iaload, 1), (933, .aload_n 0, 1), (934, .iload_n 3, 1), (935, .iconst 2, 1), (936, .iadd, 1), (937, .iaload, 1), (938, .aload_n 0, 1), (939, .iload_n 3, 1), (940, .iconst 3, 1), (941, .iadd, 1), (942, .iaload, 1), (943, .invokevirtual 101, 3), (946, .if_icmp .eq 666, 3), (949, .iconst 0, 1), (950, .ireturn, 1), (951, .aload_n 1, 1), (952, .aload_n 0, 1), (953, .iload_n 3, 1), (954, .iconst 1, 1), (955, .iadd, 1), (956, .iaload, 1), (957, .aload_n 0, 1), (958, .iload_n 3, 1), (959, .iconst 2, 1), (960, .iadd, 1), (961, .iaload, 1), (962, .aload_n 0, 1), (963, .iload_n 3, 1), (964, .iconst 3, 1), (965, .iadd, 1), (966, .iaload, 1), (967, .invokevirtual 102, 3), (970, .aload_n 2, 1), (971, .aload_n 0, 1), (972, .iload_n 3, 1), (973, .iconst 1, 1), (974, .iadd, 1), (975, .iaload, 1), (976, .aload_n 0, 1), (977, .iload_n 3, 1), (978, .iconst 2, 1), (979, .iadd, 1), (980, .iaload, 1), (981, .aload_n 0, 1), (982, .iload_n 3, 1), (983, .iconst 3, 1), (984, .iadd, 1), (985, .iaload, 1), (986, .invokevirtual 105, 3), (989, .if_icmp .eq 623, 3), (992, .iconst 0, 1), (993, .ireturn, 1), (994, .aload_n 1, 1), (995, .aload_n 0, 1), (996, .iload_n 3, 1), (997, .iconst 1, 1), (998, .iadd, 1), (999, .iaload, 1), (1000, .invokevirtual 106, 3), (1003, .aload_n 2, 1), (1004, .aload_n 0, 1), (1005, .iload_n 3, 1), (1006, .iconst 1, 1), (1007, .iadd, 1), (1008, .iaload, 1), (1009, .invokevirtual 109, 3), (1012, .if_icmp .eq 600, 3), (1015, .iconst 0, 1), (1016, .ireturn, 1), (1017, .aload_n 1, 1), (1018, .aload_n 0, 1), (1019, .iload_n 3, 1), (1020, .iconst 1, 1), (1021, .iadd, 1), (1022, .iaload, 1), (1023, .aload_n 0, 1), (1024, .iload_n 3, 1), (1025, .iconst 2, 1), (1026, .iadd, 1), (1027, .iaload, 1), (1028, .aload_n 0, 1), (1029, .iload_n 3, 1), (1030, .iconst 3, 1), (1031, .iadd, 1), (1032, .iaload, 1), (1033, .aload_n 0, 1), (1034, .iload_n 3, 1), (1035, .iconst 4, 1), (1036, .iadd, 1), (1037, .iaload, 1), (1038, .invokevirtual 110, 3), (1041, .aload_n 2, 1), (1042, .aload_n 0, 1), (1043, .iload_n 3, 1), (1044, .iconst 1, 1), (1045, .iadd, 1), (1046, .iaload, 1), (1047, .aload_n 0, 1), (1048, .iload_n 3, 1), (1049, .iconst 2, 1), (1050, .iadd, 1), (1051, .iaload, 1), (1052, .aload_n 0, 1), (1053, .iload_n 3, 1), (1054, .iconst 3, 1), (1055, .iadd, 1), (1056, .iaload, 1), (1057, .aload_n 0, 1), (1058, .iload_n 3, 1), (1059, .iconst 4, 1), (1060, .iadd, 1), (1061, .iaload, 1), (1062, .invokevirtual 114, 3), (1065, .lcmp, 1), (1066, .ifCond .eq 546, 3), (1069, .iconst 0, 1), (1070, .ireturn, 1), (1071, .aload_n 1, 1), (1072, .aload_n 0, 1), (1073, .iload_n 3, 1), (1074, .iconst 1, 1), (1075, .iadd, 1), (1076, .iaload, 1), (1077, .aload_n 0, 1), (1078, .iload_n 3, 1), (1079, .iconst 2, 1), (1080, .iadd, 1), (1081, .iaload, 1), (1082, .invokevirtual 115, 3), (1085, .aload_n 2, 1), (1086, .aload_n 0, 1), (1087, .iload_n 3, 1), (1088, .iconst 1, 1), (1089, .iadd, 1), (1090, .iaload, 1), (1091, .aload_n 0, 1), (1092, .iload_n 3, 1), (1093, .iconst 2, 1), (1094, .iadd, 1), (1095, .iaload, 1), (1096, .invokevirtual 118, 3), (1099, .if_icmp .eq 513, 3), (1102, .iconst 0, 1), (1103, .ireturn, 1), (1104, .aload_n 1, 1), (1105, .aload_n 0, 1), (1106, .iload_n 3, 1), (1107, .iconst 1, 1), (1108, .iadd, 1), (1109, .iaload, 1), (1110, .invokevirtual 119, 3), (1113, .aload_n 2, 1), (1114, .aload_n 0, 1), (1115, .iload_n 3, 1), (1116, .iconst 1, 1), (1117, .iadd, 1), (1118, .iaload, 1), (1119, .invokevirtual 122, 3), (1122, .if_icmp .eq 490, 3), (1125, .iconst 0, 1), (1126, .ireturn, 1), (1127, .aload_n 1, 1), (1128, .aload_n 0, 1), (1129, .iload_n 3, 1), (1130, .iconst 1, 1), (1131, .iadd, 1), (1132, .iaload, 1), (1133, .aload_n 0, 1), (1134, .iload_n 3, 1), (1135, .iconst 2, 1), (1136, .iadd, 1), (1137, .iaload, 1), (1138, .invokevirtual 123, 3), (1141, .aload_n 2, 1), (1142, .aload_n 0, 1), (1143, .iload_n 3, 1), (1144, .iconst 1, 1), (1145, .iadd, 1), (1146, .iaload, 1), (1147, .aload_n 0, 1), (1148, .iload_n 3, 1), (1149, .iconst 2, 1), (1150, .iadd, 1), (1151, .iaload, 1), (1152, .invokevirtual 126, 3), (1155, .if_icmp .eq 457, 3), (1158, .iconst 0, 1), (1159, .ireturn, 1), (1160, .aload_n 1, 1), (1161, .aload_n 0, 1), (1162, .iload_n 3, 1), (1163, .iconst 1, 1), (1164, .iadd, 1), (1165, .iaload, 1), (1166, .aload_n 0, 1), (1167, .iload_n 3, 1), (1168, .iconst 2, 1), (1169, .iadd, 1), (1170, .iaload, 1), (1171, .aload_n 0, 1), (1172, .iload_n 3, 1), (1173, .iconst 3, 1), (1174, .iadd, 1), (1175, .iaload, 1), (1176, .aload_n 0, 1), (1177, .iload_n 3, 1), (1178, .iconst 4, 1), (1179, .iadd, 1), (1180, .iaload, 1), (1181, .aload_n 0, 1), (1182, .iload_n 3, 1), (1183, .iconst 5, 1), (1184, .iadd, 1), (1185, .iaload, 1), (1186, .aload_n 0, 1), (1187, .iload_n 3, 1), (1188, .bipush 6, 2), (1190, .iadd, 1), (1191, .iaload, 1), (1192, .invokevirtual 127, 3), (1195, .aload_n 2, 1), (1196, .aload_n 0, 1), (1197, .iload_n 3, 1), (1198, .iconst 1, 1), (1199, .iadd, 1), (1200, .iaload, 1), (1201, .aload_n 0, 1), (1202, .iload_n 3, 1), (1203, .iconst 2, 1), (1204, .iadd, 1), (1205, .iaload, 1), (1206, .aload_n 0, 1), (1207, .iload_n 3, 1), (1208, .iconst 3, 1), (1209, .iadd, 1), (1210, .iaload, 1), (1211, .aload_n 0, 1), (1212, .iload_n 3, 1), (1213, .iconst 4, 1), (1214, .iadd, 1), (1215, .iaload, 1), (1216, .aload_n 0, 1), (1217, .iload_n 3, 1), (1218, .iconst 5, 1), (1219, .iadd, 1), (1220, .iaload, 1), (1221, .aload_n 0, 1), (1222, .iload_n 3, 1), (1223, .bipush 6, 2), (1225, .iadd, 1), (1226, .iaload, 1), (1227, .invokevirtual 131, 3), (1230, .if_icmp .eq 382, 3), (1233, .iconst 0, 1), (1234, .ireturn, 1), (1235, .aload_n 1, 1), (1236, .aload_n 0, 1), (1237, .iload_n 3, 1), (1238, .iconst 1, 1), (1239, .iadd, 1), (1240, .iaload, 1), (1241, .aload_n 0, 1), (1242, .iload_n 3, 1), (1243, .iconst 2, 1), (1244, .iadd, 1), (1245, .iaload, 1), (1246, .invokevirtual 132, 3), (1249, .aload_n 2, 1), (1250, .aload_n 0, 1), (1251, .iload_n 3, 1), (1252, .iconst 1, 1), (1253, .iadd, 1), (1254, .iaload, 1), (1255, .aload_n 0, 1), (1256, .iload_n 3, 1), (1257, .iconst 2, 1), (1258, .iadd, 1), (1259, .iaload, 1), (1260, .invokevirtual 135, 3), (1263, .if_icmp .eq 349, 3), (1266, .iconst 0, 1), (1267, .ireturn, 1), (1268, .aload_n 1, 1), (1269, .aload_n 0, 1), (1270, .iload_n 3, 1), (1271, .iconst 1, 1), (1272, .iadd, 1), (1273, .iaload, 1), (1274, .aload_n 0, 1), (1275, .iload_n 3, 1), (1276, .iconst 2, 1), (1277, .iadd, 1), (1278, .iaload, 1), (1279, .aload_n 0, 1), (1280, .iload_n 3, 1), (1281, .iconst 3, 1), (1282, .iadd, 1), (1283, .iaload, 1), (1284, .invokevirtual 136, 3), (1287, .aload_n 2, 1), (1288, .aload_n 0, 1), (1289, .iload_n 3, 1), (1290, .iconst 1, 1), (1291, .iadd, 1), (1292, .iaload, 1), (1293, .aload_n 0, 1), (1294, .iload_n 3, 1), (1295, .iconst 2, 1), (1296, .iadd, 1), (1297, .iaload, 1), (1298, .aload_n 0, 1), (1299, .iload_n 3, 1), (1300, .iconst 3, 1), (1301, .iadd, 1), (1302, .iaload, 1), (1303, .invokevirtual 139, 3), (1306, .if_icmp .eq 306, 3), (1309, .iconst 0, 1), (1310, .ireturn, 1), (1311, .aload_n 1, 1), (1312, .aload_n 0, 1), (1313, .iload_n 3, 1), (1314, .iconst 1, 1), (1315, .iadd, 1), (1316, .iaload, 1), (1317, .invokevirtual 140, 3), (1320, .aload_n 2, 1), (1321, .aload_n 0, 1), (1322, .iload_n 3, 1), (1323, .iconst 1, 1), (1324, .iadd, 1), (1325, .iaload, 1), (1326, .invokevirtual 143, 3), (1329, .if_icmp .eq 283, 3), (1332, .iconst 0, 1), (1333, .ireturn, 1), (1334, .aload_n 1, 1), (1335, .aload_n 0, 1), (1336, .iload_n 3, 1), (1337, .iconst 1, 1), (1338, .iadd, 1), (1339, .iaload, 1), (1340, .aload_n 0, 1), (1341, .iload_n 3, 1), (1342, .iconst 2, 1), (1343, .iadd, 1), (1344, .iaload, 1), (1345, .aload_n 0, 1), (1346, .iload_n 3, 1), (1347, .iconst 3, 1), (1348, .iadd, 1), (1349, .iaload, 1), (1350, .invokevirtual 144, 3), (1353, .aload_n 2, 1), (1354, .aload_n 0, 1), (1355, .iload_n 3, 1), (1356, .iconst 1, 1), (1357, .iadd, 1), (1358, .iaload, 1), (1359, .aload_n 0, 1), (1360, .iload_n 3, 1), (1361, .iconst 2, 1), (1362, .iadd, 1), (1363, .iaload, 1), (1364, .aload_n 0, 1), (1365, .iload_n 3, 1), (1366, .iconst 3, 1), (1367, .iadd, 1), (1368, .iaload, 1), (1369, .invokevirtual 147, 3), (1372, .if_icmp .eq 240, 3), (1375, .iconst 0, 1), (1376, .ireturn, 1), (1377, .aload_n 1, 1), (1378, .aload_n 0, 1), (1379, .iload_n 3, 1), (1380, .iconst 1, 1), (1381, .iadd, 1), (1382, .iaload, 1), (1383, .aload_n 0, 1), (1384, .iload_n 3, 1), (1385, .iconst 2, 1), (1386, .iadd, 1), (1387, .iaload, 1), (1388, .aload_n 0, 1), (1389, .iload_n 3, 1), (1390, .iconst 3, 1), (1391, .iadd, 1), (1392, .iaload, 1), (1393, .invokevirtual 148, 3), (1396, .aload_n 2, 1), (1397, .aload_n 0, 1), (1398, .iload_n 3, 1), (1399, .iconst 1, 1), (1400, .iadd, 1), (1401, .iaload, 1), (1402, .aload_n 0, 1), (1403, .iload_n 3, 1), (1404, .iconst 2, 1), (1405, .iadd, 1), (1406, .iaload, 1), (1407, .aload_n 0, 1), (1408, .iload_n 3, 1), (1409, .iconst 3, 1), (1410, .iadd, 1), (1411, .iaload, 1), (1412, .invokevirtual 152, 3), (1415, .lcmp, 1), (1416, .ifCond .eq 196, 3), (1419, .iconst 0, 1), (1420, .ireturn, 1), (1421, .aload_n 1, 1), (1422, .aload_n 0, 1), (1423, .iload_n 3, 1), (1424, .iconst 1, 1), (1425, .iadd, 1), (1426, .iaload, 1), (1427, .aload_n 0, 1), (1428, .iload_n 3, 1), (1429, .iconst 2, 1), (1430, .iadd, 1), (1431, .iaload, 1), (1432, .aload_n 0, 1), (1433, .iload_n 3, 1), (1434, .iconst 3, 1), (1435, .iadd, 1), (1436, .iaload, 1), (1437, .aload_n 0, 1), (1438, .iload_n 3, 1), (1439, .iconst 4, 1), (1440, .iadd, 1), (1441, .iaload, 1), (1442, .aload_n 0, 1), (1443, .iload_n 3, 1), (1444, .iconst 5, 1), (1445, .iadd, 1), (1446, .iaload, 1), (1447, .invokevirtual 153, 3), (1450, .aload_n 2, 1), (1451, .aload_n 0, 1), (1452, .iload_n 3, 1), (1453, .iconst 1, 1), (1454, .iadd, 1), (1455, .iaload, 1), (1456, .aload_n 0, 1), (1457, .iload_n 3, 1), (1458, .iconst 2, 1), (1459, .iadd, 1), (1460, .iaload, 1), (1461, .aload_n 0, 1), (1462, .iload_n 3, 1), (1463, .iconst 3, 1), (1464, .iadd, 1), (1465, .iaload, 1), (1466, .aload_n 0, 1), (1467, .iload_n 3, 1), (1468, .iconst 4, 1), (1469, .iadd, 1), (1470, .iaload, 1), (1471, .aload_n 0, 1), (1472, .iload_n 3, 1), (1473, .iconst 5, 1), (1474, .iadd, 1), (1475, .iaload, 1), (1476, .invokevirtual 157, 3), (1479, .if_icmp .eq 133, 3), (1482, .iconst 0, 1), (1483, .ireturn, 1), (1484, .aload_n 1, 1), (1485, .aload_n 0, 1), (1486, .iload_n 3, 1), (1487, .iconst 1, 1), (1488, .iadd, 1), (1489, .iaload, 1), (1490, .invokevirtual 158, 3), (1493, .aload_n 2, 1), (1494, .aload_n 0, 1), (1495, .iload_n 3, 1), (1496, .iconst 1, 1), (1497, .iadd, 1), (1498, .iaload, 1), (1499, .invokevirtual 161, 3), (1502, .if_icmp .eq 110, 3), (1505, .iconst 0, 1), (1506, .ireturn, 1), (1507, .aload_n 1, 1), (1508, .aload_n 0, 1), (1509, .iload_n 3, 1), (1510, .iconst 1, 1), (1511, .iadd, 1), (1512, .iaload, 1), (1513, .invokevirtual 162, 3), (1516, .aload_n 2, 1), (1517, .aload_n 0, 1), (1518, .iload_n 3, 1), (1519, .iconst 1, 1), (1520, .iadd, 1), (1521, .iaload, 1), (1522, .invokevirtual 165, 3), (1525, .if_icmp .eq 87, 3), (1528, .iconst 0, 1), (1529, .ireturn, 1), (1530, .aload_n 1, 1), (1531, .aload_n 0, 1), (1532, .iload_n 3, 1), (1533, .iconst 1, 1), (1534, .iadd, 1), (1535, .iaload, 1), (1536, .aload_n 0, 1), (1537, .iload_n 3, 1), (1538, .iconst 2, 1), (1539, .iadd, 1), (1540, .iaload, 1), (1541, .invokevirtual 166, 3), (1544, .aload_n 2, 1), (1545, .aload_n 0, 1), (1546, .iload_n 3, 1), (1547, .iconst 1, 1), (1548, .iadd, 1), (1549, .iaload, 1), (1550, .aload_n 0, 1), (1551, .iload_n 3, 1), (1552, .iconst 2, 1), (1553, .iadd, 1), (1554, .iaload, 1), (1555, .invokevirtual 169, 3), (1558, .if_icmp .eq 54, 3), (1561, .iconst 0, 1), (1562, .ireturn, 1), (1563, .aload_n 1, 1), (1564, .invokevirtual 170, 3), (1567, .aload_n 2, 1), (1568, .invokevirtual 173, 3), (1571, .if_icmp .eq 41, 3), (1574, .iconst 0, 1), (1575, .ireturn, 1), (1576, .aload_n 1, 1), (1577, .invokevirtual 174, 3), (1580, .aload_n 2, 1), (1581, .invokevirtual 177, 3), (1584, .if_icmp .eq 28, 3), (1587, .iconst 0, 1), (1588, .ireturn, 1), (1589, .aload_n 1, 1), (1590, .aload_n 0, 1), (1591, .iload_n 3, 1), (1592, .iconst 1, 1), (1593, .iadd, 1), (1594, .iaload, 1), (1595, .invokevirtual 178, 3), (1598, .aload_n 2, 1), (1599, .aload_n 0, 1), (1600, .iload_n 3, 1), (1601, .iconst 1, 1), (1602, .iadd, 1), (1603, .iaload, 1), (1604, .invokevirtual 181, 3), (1607, .if_icmp .eq 5, 3), (1610, .iconst 0, 1), (1611, .ireturn, 1), (1612, .iinc 3 7, 3), (1615, .goto (-1597), 3), (1618, .iconst 1, 1), (1619, .ireturn, 1)]
theorem dd_L_law : Dall 208 dl_L_law = true := by decide +kernel
theorem t_L_law {h : Hp} {P : Value → Hp → Prop} {p0 : Nat} (T : (tg h 0 = 0) ∧ (okg 208 0 [.ref p0, .retAddr 0, .retAddr 0, .retAddr 0] [.ref 0] [.ref 0] = true) ∧ R 0 0 [.ref 0, .retAddr 0] [] (mk h 0 12 0 17) (fun _ h2 => R 208 7 [.ref p0, .retAddr 0, .retAddr 0, .retAddr 0] [.ref 0] h2 P)) : R 208 0 [.ref p0, .retAddr 0, .retAddr 0, .retAddr 0] [] h P := by
  obtain ⟨g1, T⟩ := T
  refine R_new (Dat dd_L_law 0 rfl) (ci := 11) rfl rfl (q := 0) rfl g1 (by decide) ?_
  refine R_dup (Dat dd_L_law 1 rfl) rfl ?_
  obtain ⟨g2, T⟩ := T
  exact R_call2 (Dat dd_L_law 2 rfl) rfl rfl rfl rfl g2 rfl T
theorem t_L_law_7 {h : Hp} {P : Value → Hp → Prop} {a0 : Nat} {a1 a2 a3 : Value} (T : (tg h 400 = 0) ∧ (okg 208 126 [.ref a0, .ref 0, a2, a3] [.ref 400] [.ref 400] = true) ∧ R 126 0 [.ref 400] [] (mk h 400 13 0 37) (fun _ h2 => R 208 15 [.ref a0, .ref 0, a2, a3] [.ref 400] h2 P)) : R 208 7 [.ref a0, a1, a2, a3] [.ref 0] h P := by
  refine R_astore_n (Dat dd_L_law 3 rfl) rfl rfl rfl ?_
  obtain ⟨g1, T⟩ := T
  refine R_new (Dat dd_L_law 4 rfl) (ci := 12) rfl rfl (q := 400) rfl g1 (by decide) ?_
  refine R_dup (Dat dd_L_law 5 rfl) rfl ?_
  obtain ⟨g2, T⟩ := T
  exact R_call2 (Dat dd_L_law 6 rfl) rfl rfl rfl rfl g2 rfl T
theorem t_L_law_15 {h : Hp} {P : Value → Hp → Prop} {a0 : Nat} {a2 a3 : Value} (T : R 208 18 [.ref a0, .ref 0, .ref 400, .int (I 0)] [] h P) : R 208 15 [.ref a0, .ref 0, a2, a3] [.ref 400] h P := by
  refine R_astore_n (Dat dd_L_law 7 rfl) rfl rfl rfl ?_
  refine R_iconst (Dat dd_L_law 8 rfl) ?_
  refine R_istore_n (Dat dd_L_law 9 rfl) rfl rfl ?_
  exact T
theorem t_L_law_18 {h : Hp} {P : Value → Hp → Prop} {a3 : Int} {a0 : Nat} (T : ((20 ≤ tg h a0 ∧ tg h a0 ≤ 25) ∨ tg h a0 = 30) ∧ (rng a3) ∧ (rng ((ln h a0 : Int) - 7)) ∧ ((((ln h a0 : Int) - 7) < a3 → P (.int (I 1)) h) ∧ (¬ ((ln h a0 : Int) - 7) < a3 → (tg h a0 = 20 ∨ tg h a0 = 30) ∧ ((ln h a0 : Int) ≤ 2147483648) ∧ (0 ≤ a3) ∧ (a3 < ln h a0) ∧ (rng (band (iv h a0 a3) 63)) ∧ ((((band (iv h a0 a3) 63) = 0 → (tg h a0 = 20 ∨ tg h a0 = 30) ∧ ((ln h a0 : Int) ≤ 2147483648) ∧ (0 ≤ (a3 + 1)) ∧ ((a3 + 1) < ln h a0) ∧ (tg h a0 = 20 ∨ tg h a0 = 30) ∧ ((ln h a0 : Int) ≤ 2147483648) ∧ (0 ≤ (a3 + 2)) ∧ ((a3 + 2) < ln h a0) ∧ (tg h a0 = 20 ∨ tg h a0 = 30) ∧ ((ln h a0 : Int) ≤ 2147483648) ∧ (0 ≤ (a3 + 3)) ∧ ((a3 + 3) < ln h a0) ∧ (tg h a0 = 20 ∨ tg h a0 = 30) ∧ ((ln h a0 : Int) ≤ 2147483648) ∧ (0 ≤ (a3 + 4)) ∧ ((a3 + 4) < ln h a0) ∧ (okg 208 7 [.ref a0, .ref 0, .ref 400, .int (I a3)] [] [.ref 0, .int (I (iv h a0 (a3 + 1))), .int (I (iv h a0 (a3 + 2))), .int (I (iv h a0 (a3 + 3))), .int (I (iv h a0 (a3 + 4)))] = true) ∧ (tg h 0 = 12) ∧ R 7 0 [.ref 0, .int (I (iv h a0 (a3 + 1))), .int (I (iv h a0 (a3 + 2))), .int (I (iv h a0 (a3 + 3))), .int (I (iv h a0 (a3 + 4))), .retAddr 0, .retAddr 0, .retAddr 0] [] h (fun v h2 => R 208 232 [.ref a0, .ref 0, .ref 400, .int (I a3)] (v :: []) h2 P)) ∧ ((band (iv h a0 a3) 63) = 1 → (tg h a0 = 20 ∨ tg h a0 = 30) ∧ ((ln h a0 : Int) ≤ 2147483648) ∧ (0 ≤ (a3 + 1)) ∧ ((a3 + 1) < ln h a0) ∧ (tg h a0 = 20 ∨ tg h a0 = 30) ∧ ((ln h a0 : Int) ≤ 2147483648) ∧ (0 ≤ (a3 + 2)) ∧ ((a3 + 2) < ln h a0) ∧ (tg h 0 = 12) ∧ R 27 0 [.ref 0, .int (I (iv h a0 (a3 + 1))), .int (I (iv h a0 (a3 + 2))), .retAddr 0] [] h (fun v h2 => R 208 275 [.ref a0, .ref 0, .ref 400, .int (I a3)] (v :: []) h2 P)) ∧ ((band (iv h a0 a3) 63) = 2 → (tg h a0 = 20 ∨ tg h a0 = 30) ∧ ((ln h a0 : Int) ≤ 2147483648) ∧ (0 ≤ (a3 + 1)) ∧ ((a3 + 1) < ln h a0) ∧ (tg h 0 = 12) ∧ R 33 0 [.ref 0, .int (I (iv h a0 (a3 + 1)))] [] h (fun v h2 => R 208 303 [.ref a0, .ref 0, .ref 400, .int (I a3)] (v :: []) h2 P)) ∧ ((band (iv h a0 a3) 63) = 3 → (tg h 0 = 12) ∧ R 35 0 [.ref 0] [] h (fun v h2 => R 208 321 [.ref a0, .ref 0, .ref 400, .int (I a3)] (v :: []) h2 P)) ∧ ((band (iv h a0 a3) 63) = 4 → (tg h a0 = 20 ∨ tg h a0 = 30) ∧ ((ln h a0 : Int) ≤ 2147483648) ∧ (0 ≤ (a3 + 1)) ∧ ((a3 + 1) < ln h a0) ∧ (tg h 0 = 12) ∧ R 37 0 [.ref 0, .int (I (iv h a0 (a3 + 1))), .retAddr 0] [] h (fun v h2 => R 208 339 [.ref a0, .ref 0, .ref 400, .int (I a3)] (v :: []) h2 P)) ∧ ((band (iv h a0 a3) 63) = 5 → (tg h a0 = 20 ∨ tg h a0 = 30) ∧ ((ln h a0 : Int) ≤ 2147483648) ∧ (0 ≤ (a3 + 1)) ∧ ((a3 + 1) < ln h a0) ∧ (tg h a0 = 20 ∨ tg h a0 = 30) ∧ ((ln h a0 : Int) ≤ 2147483648) ∧ (0 ≤ (a3 + 2)) ∧ ((a3 + 2) < ln h a0) ∧ (tg h 0 = 12) ∧ R 39 0 [.ref 0, .int (I (iv h a0 (a3 + 1))), .int (I (iv h a0 (a3 + 2)))] [] h (fun v h2 => R 208 367 [.ref a0, .ref 0, .ref 400, .int (I a3)] (v :: []) h2 P)) ∧ ((band (iv h a0 a3) 63) = 6 → (tg h a0 = 20 ∨ tg h a0 = 30) ∧ ((ln h a0 : Int) ≤ 2147483648) ∧ (0 ≤ (a3 + 1)) ∧ ((a3 + 1) < ln h a0) ∧ (tg h a0 = 20 ∨ tg h a0 = 30) ∧ ((ln h a0 : Int) ≤ 2147483648) ∧ (0 ≤ (a3 + 2)) ∧ ((a3 + 2) < ln h a0) ∧ (tg h a0 = 20 ∨ tg h a0 = 30) ∧ ((ln h a0 : Int) ≤ 2147483648) ∧ (0 ≤ (a3 + 3)) ∧ ((a3 + 3) < ln h a0) ∧ (tg h a0 = 20 ∨ tg h a0 = 30) ∧ ((ln h a0 : Int) ≤ 2147483648) ∧ (0 ≤ (a3 + 4)) ∧ ((a3 + 4) < ln h a0) ∧ (okg 208 40 [.ref a0, .ref 0, .ref 400, .int (I a3)] [] [.ref 0, .int (I (iv h a0 (a3 + 1))), .int (I (iv h a0 (a3 + 2))), .int (I (iv h a0 (a3 + 3))), .int (I (iv h a0 (a3 + 4)))] = true) ∧ (tg h 0 = 12) ∧ R 40 0 [.ref 0, .int (I (iv h a0 (a3 + 1))), .int (I (iv h a0 (a3 + 2))), .int (I (iv h a0 (a3 + 3))), .int (I (iv h a0 (a3 + 4))), .retAddr 0, .retAddr 0, .retAddr 0] [] h (fun v h2 => R 208 410 [.ref a0, .ref 0, .ref 400, .int (I a3)] (v :: []) h2 P)) ∧ ((band (iv h a0 a3) 63) = 7 → (tg h a0 = 20 ∨ tg h a0 = 30) ∧ ((ln h a0 : Int) ≤ 2147483648) ∧ (0 ≤ (a3 + 1)) ∧ ((a3 + 1) < ln h a0) ∧ (tg h a0 = 20 ∨ tg h a0 = 30) ∧ ((ln h a0 : Int) ≤ 2147483648) ∧ (0 ≤ (a3 + 2)) ∧ ((a3 + 2) < ln h a0) ∧ (tg h a0 = 20 ∨ tg h a0 = 30) ∧ ((ln h a0 : Int) ≤ 2147483648) ∧ (0 ≤ (a3 + 3)) ∧ ((a3 + 3) < ln h a0) ∧ (tg h 0 = 12) ∧ R 47 0 [.ref 0, .int (I (iv h a0 (a3 + 1))), .int (I (iv h a0 (a3 + 2))), .int (I (iv h a0 (a3 + 3))), .retAddr 0] [] h (fun v h2 => R 208 458 [.ref a0, .ref 0, .ref 400, .int (I a3)] (v :: []) h2 P)) ∧ ((band (iv h a0 a3) 63) = 8 → (tg h a0 = 20 ∨ tg h a0 = 30) ∧ ((ln h a0 : Int) ≤ 2147483648) ∧ (0 ≤ (a3 + 1)) ∧ ((a3 + 1) < ln h a0) ∧ (tg h 0 = 12) ∧ R 48 0 [.ref 0, .int (I (iv h a0 (a3 + 1))), .retAddr 0] [] h (fun v h2 => R 208 491 [.ref a0, .ref 0, .ref 400, .int (I a3)] (v :: []) h2 P)) ∧ ((band (iv h a0 a3) 63) = 9 → (tg h a0 = 20 ∨ tg h a0 = 30) ∧ ((ln h a0 : Int) ≤ 2147483648) ∧ (0 ≤ (a3 + 1)) ∧ ((a3 + 1) < ln h a0) ∧ (tg h a0 = 20 ∨ tg h a0 = 30) ∧ ((ln h a0 : Int) ≤ 2147483648) ∧ (0 ≤ (a3 + 2)) ∧ ((a3 + 2) < ln h a0) ∧ (tg h a0 = 20 ∨ tg h a0 = 30) ∧ ((ln h a0 : Int) ≤ 2147483648) ∧ (0 ≤ (a3 + 3)) ∧ ((a3 + 3) < ln h a0) ∧ (tg h a0 = 20 ∨ tg h a0 = 30) ∧ ((ln h a0 : Int) ≤ 2147483648) ∧ (0 ≤ (a3 + 4)) ∧ ((a3 + 4) < ln h a0) ∧ (tg h 0 = 12) ∧ R 49 0 [.ref 0, .int (I (iv h a0 (a3 + 1))), .int (I (iv h a0 (a3 + 2))), .int (I (iv h a0 (a3 + 3))), .int (I (iv h a0 (a3 + 4))), .retAddr 0] [] h (fun v h2 => R 208 529 [.ref a0, .ref 0, .ref 400, .int (I a3)] (v :: []) h2 P)) ∧ ((band (iv h a0 a3) 63) = 10 → (tg h a0 = 20 ∨ tg h a0 = 30) ∧ ((ln h a0 : Int) ≤ 2147483648) ∧ (0 ≤ (a3 + 1)) ∧ ((a3 + 1) < ln h a0) ∧ (tg h a0 = 20 ∨ tg h a0 = 30) ∧ ((ln h a0 : Int) ≤ 2147483648) ∧ (0 ≤ (a3 + 2)) ∧ ((a3 + 2) < ln h a0) ∧ (okg 208 54 [.ref a0, .ref 0, .ref 400, .int (I a3)] [] [.ref 0, .int (I (iv h a0 (a3 + 1))), .int (I (iv h a0 (a3 + 2)))] = true) ∧ (tg h 0 = 12) ∧ R 54 0 [.ref 0, .int (I (iv h a0 (a3 + 1))), .int (I (iv h a0 (a3 + 2))), .retAddr 0, .retAddr 0, .retAddr 0] [] h (fun v h2 => R 208 572 [.ref a0, .ref 0, .ref 400, .int (I a3)] (v :: []) h2 P)) ∧ ((band (iv h a0 a3) 63) = 11 → (tg h a0 = 20 ∨ tg h a0 = 30) ∧ ((ln h a0 : Int) ≤ 2147483648) ∧ (0 ≤ (a3 + 1)) ∧ ((a3 + 1) < ln h a0) ∧ (tg h a0 = 20 ∨ tg h a0 = 30) ∧ ((ln h a0 : Int) ≤ 2147483648) ∧ (0 ≤ (a3 + 2)) ∧ ((a3 + 2) < ln h a0) ∧ (tg h a0 = 20 ∨ tg h a0 = 30) ∧ ((ln h a0 : Int) ≤ 2147483648) ∧ (0 ≤ (a3 + 3)) ∧ ((a3 + 3) < ln h a0) ∧ (tg h a0 = 20 ∨ tg h a0 = 30) ∧ ((ln h a0 : Int) ≤ 2147483648) ∧ (0 ≤ (a3 + 4)) ∧ ((a3 + 4) < ln h a0) ∧ (okg 208 66 [.ref a0, .ref 0, .ref 400, .int (I a3)] [] [.ref 0, .int (I (iv h a0 (a3 + 1))), .int (I (iv h a0 (a3 + 2))), .int (I (iv h a0 (a3 + 3))), .int (I (iv h a0 (a3 + 4)))] = true) ∧ (tg h 0 = 12) ∧ R 66 0 [.ref 0, .int (I (iv h a0 (a3 + 1))), .int (I (iv h a0 (a3 + 2))), .int (I (iv h a0 (a3 + 3))), .int (I (iv h a0 (a3 + 4))), .retAddr 0, .retAddr 0, .retAddr 0, .retAddr 0, .retAddr 0] [] h (fun v h2 => R 208 615 [.ref a0, .ref 0, .ref 400, .int (I a3)] (v :: []) h2 P)) ∧ ((band (iv h a0 a3) 63) = 12 → (tg h 0 = 12) ∧ R 68 0 [.ref 0] [] h (fun v h2 => R 208 648 [.ref a0, .ref 0, .ref 400, .int (I a3)] (v :: []) h2 P)) ∧ ((band (iv h a0 a3) 63) = 13 → (tg h 0 = 12) ∧ R 71 0 [.ref 0, .retAddr 0] [] h (fun v h2 => R 208 661 [.ref a0, .ref 0, .ref 400, .int (I a3)] (v :: []) h2 P)) ∧ ((band (iv h a0 a3) 63) = 14 → (tg h a0 = 20 ∨ tg h a0 = 30) ∧ ((ln h a0 : Int) ≤ 2147483648) ∧ (0 ≤ (a3 + 1)) ∧ ((a3 + 1) < ln h a0) ∧ (tg h a0 = 20 ∨ tg h a0 = 30) ∧ ((ln h a0 : Int) ≤ 2147483648) ∧ (0 ≤ (a3 + 2)) ∧ ((a3 + 2) < ln h a0) ∧ (okg 208 74 [.ref a0, .ref 0, .ref 400, .int (I a3)] [] [.ref 0, .int (I (iv h a0 (a3 + 1))), .int (I (iv h a0 (a3 + 2)))] = true) ∧ (tg h 0 = 12) ∧ R 74 0 [.ref 0, .int (I (iv h a0 (a3 + 1))), .int (I (iv h a0 (a3 + 2))), .retAddr 0] [] h (fun v h2 => R 208 684 [.ref a0, .ref 0, .ref 400, .int (I a3)] (v :: []) h2 P)) ∧ ((band (iv h a0 a3) 63) = 15 → (tg h a0 = 20 ∨ tg h a0 = 30) ∧ ((ln h a0 : Int) ≤ 2147483648) ∧ (0 ≤ (a3 + 1)) ∧ ((a3 + 1) < ln h a0) ∧ (tg h a0 = 20 ∨ tg h a0 = 30) ∧ ((ln h a0 : Int) ≤ 2147483648) ∧ (0 ≤ (a3 + 2)) ∧ ((a3 + 2) < ln h a0) ∧ (tg h a0 = 20 ∨ tg h a0 = 30) ∧ ((ln h a0 : Int) ≤ 2147483648) ∧ (0 ≤ (a3 + 3)) ∧ ((a3 + 3) < ln h a0) ∧ (okg 208 76 [.ref a0, .ref 0, .ref 400, .int (I a3)] [] [.ref 0, .int (I (iv h a0 (a3 + 1))), .int (I (iv h a0 (a3 + 2))), .int (I (iv h a0 (a3 + 3)))] = true) ∧ (tg h 0 = 12) ∧ R 76 0 [.ref 0, .int (I (iv h a0 (a3 + 1))), .int (I (iv h a0 (a3 + 2))), .int (I (iv h a0 (a3 + 3))), .retAddr 0, .retAddr 0, .retAddr 0, .retAddr 0] [] h (fun v h2 => R 208 722 [.ref a0, .ref 0, .ref 400, .int (I a3)] (v :: []) h2 P)) ∧ ((band (iv h a0 a3) 63) = 16 → (tg h a0 = 20 ∨ tg h a0 = 30) ∧ ((ln h a0 : Int) ≤ 2147483648) ∧ (0 ≤ (a3 + 1)) ∧ ((a3 + 1) < ln h a0) ∧ (tg h a0 = 20 ∨ tg h a0 = 30) ∧ ((ln h a0 : Int) ≤ 2147483648) ∧ (0 ≤ (a3 + 2)) ∧ ((a3 + 2) < ln h a0) ∧ (tg h a0 = 20 ∨ tg h a0 = 30) ∧ ((ln h a0 : Int) ≤ 2147483648) ∧ (0 ≤ (a3 + 3)) ∧ ((a3 + 3) < ln h a0) ∧ (okg 208 77 [.ref a0, .ref 0, .ref 400, .int (I a3)] [] [.ref 0, .int (I (iv h a0 (a3 + 1))), .int (I (iv h a0 (a3 + 2))), .int (I (iv h a0 (a3 + 3)))] = true) ∧ (tg h 0 = 12) ∧ R 77 0 [.ref 0, .int (I (iv h a0 (a3 + 1))), .int (I (iv h a0 (a3 + 2))), .int (I (iv h a0 (a3 + 3))), .retAddr 0] [] h (fun v h2 => R 208 765 [.ref a0, .ref 0, .ref 400, .int (I a3)] (v :: []) h2 P)) ∧ ((band (iv h a0 a3) 63) = 17 → (tg h a0 = 20 ∨ tg h a0 = 30) ∧ ((ln h a0 : Int) ≤ 2147483648) ∧ (0 ≤ (a3 + 1)) ∧ ((a3 + 1) < ln h a0) ∧ (tg h a0 = 20 ∨ tg h a0 = 30) ∧ ((ln h a0 : Int) ≤ 2147483648) ∧ (0 ≤ (a3 + 2)) ∧ ((a3 + 2) < ln h a0) ∧ (tg h a0 = 20 ∨ tg h a0 = 30) ∧ ((ln h a0 : Int) ≤ 2147483648) ∧ (0 ≤ (a3 + 3)) ∧ ((a3 + 3) < ln h a0) ∧ (okg 208 80 [.ref a0, .ref 0, .ref 400, .int (I a3)] [] [.ref 0, .int (I (iv h a0 (a3 + 1))), .int (I (iv h a0 (a3 + 2))), .int (I (iv h a0 (a3 + 3)))] = true) ∧ (tg h 0 = 12) ∧ R 80 0 [.ref 0, .int (I (iv h a0 (a3 + 1))), .int (I (iv h a0 (a3 + 2))), .int (I (iv h a0 (a3 + 3))), .retAddr 0, .retAddr 0, .retAddr 0, .retAddr 0, .retAddr 0, .retAddr 0, .retAddr 0] [] h (fun v h2 => R 208 808 [.ref a0, .ref 0, .ref 400, .int (I a3)] (v :: []) h2 P)) ∧ ((band (iv h a0 a3) 63) = 18 → (tg h a0 = 20 ∨ tg h a0 = 30) ∧ ((ln h a0 : Int) ≤ 2147483648) ∧ (0 ≤ (a3 + 1)) ∧ ((a3 + 1) < ln h a0) ∧ (tg h a0 = 20 ∨ tg h a0 = 30) ∧ ((ln h a0 : Int) ≤ 2147483648) ∧ (0 ≤ (a3 + 2)) ∧ ((a3 + 2) < ln h a0) ∧ (tg h 0 = 12) ∧ R 83 0 [.ref 0, .int (I (iv h a0 (a3 + 1))), .int (I (iv h a0 (a3 + 2)))] [] h (fun v h2 => R 208 846 [.ref a0, .ref 0, .ref 400, .int (I a3)] (v :: []) h2 P)) ∧ ((band (iv h a0 a3) 63) = 19 → (tg h a0 = 20 ∨ tg h a0 = 30) ∧ ((ln h a0 : Int) ≤ 2147483648) ∧ (0 ≤ (a3 + 1)) ∧ ((a3 + 1) < ln h a0) ∧ (tg h a0 = 20 ∨ tg h a0 = 30) ∧ ((ln h a0 : Int) ≤ 2147483648) ∧ (0 ≤ (a3 + 2)) ∧ ((a3 + 2) < ln h a0) ∧ (tg h a0 = 20 ∨ tg h a0 = 30) ∧ ((ln h a0 : Int) ≤ 2147483648) ∧ (0 ≤ (a3 + 3)) ∧ ((a3 + 3) < ln h a0) ∧ (okg 208 88 [.ref a0, .ref 0, .ref 400, .int (I a3)] [] [.ref 0, .int (I (iv h a0 (a3 + 1))), .int (I (iv h a0 (a3 + 2))), .int (I (iv h a0 (a3 + 3)))] = true) ∧ (tg h 0 = 12) ∧ R 88 0 [.ref 0, .int (I (iv h a0 (a3 + 1))), .int (I (iv h a0 (a3 + 2))), .int (I (iv h a0 (a3 + 3))), .retAddr 0, .retAddr 0, .retAddr 0, .retAddr 0, .retAddr 0] [] h (fun v h2 => R 208 884 [.ref a0, .ref 0, .ref 400, .int (I a3)] (v :: []) h2 P)) ∧ ((band (iv h a0 a3) 63) = 20 → (tg h a0 = 20 ∨ tg h a0 = 30) ∧ ((ln h a0 : Int) ≤ 2147483648) ∧ (0 ≤ (a3 + 1)) ∧ ((a3 + 1) < ln h a0) ∧ (tg h a0 = 20 ∨ tg h a0 = 30) ∧ ((ln h a0 : Int) ≤ 2147483648) ∧ (0 ≤ (a3 + 2)) ∧ ((a3 + 2) < ln h a0) ∧ (tg h a0 = 20 ∨ tg h a0 = 30) ∧ ((ln h a0 : Int) ≤ 2147483648) ∧ (0 ≤ (a3 + 3)) ∧ ((a3 + 3) < ln h a0) ∧ (okg 208 94 [.ref a0, .ref 0, .ref 400, .int (I a3)] [] [.ref 0, .int (I (iv h a0 (a3 + 1))), .int (I (iv h a0 (a3 + 2))), .int (I (iv h a0 (a3 + 3)))] = true) ∧ (tg h 0 = 12) ∧ R 94 0 [.ref 0, .int (I (iv h a0 (a3 + 1))), .int (I (iv h a0 (a3 + 2))), .int (I (iv h a0 (a3 + 3))), .retAddr 0] [] h (fun v h2 => R 208 927 [.ref a0, .ref 0, .ref 400, .int (I a3)] (v :: []) h2 P)) ∧ ((band (iv h a0 a3) 63) = 21 → (tg h a0 = 20 ∨ tg h a0 = 30) ∧ ((ln h a0 : Int) ≤ 2147483648) ∧ (0 ≤ (a3 + 1)) ∧ ((a3 + 1) < ln h a0) ∧ (tg h a0 = 20 ∨ tg h a0 = 30) ∧ ((ln h a0 : Int) ≤ 2147483648) ∧ (0 ≤ (a3 + 2)) ∧ ((a3 + 2) < ln h a0) ∧ (tg h a0 = 20 ∨ tg h a0 = 30) ∧ ((ln h a0 : Int) ≤ 2147483648) ∧ (0 ≤ (a3 + 3)) ∧ ((a3 + 3) < ln h a0) ∧ (okg 208 95 [.ref a0, .ref 0, .ref 400, .int (I a3)] [] [.ref 0, .int (I (iv h a0 (a3 + 1))), .int (I (iv h a0 (a3 + 2))), .int (I (iv h a0 (a3 + 3)))] = true) ∧ (tg h 0 = 12) ∧ R 95 0 [.ref 0, .int (I (iv h a0 (a3 + 1))), .int (I (iv h a0 (a3 + 2))), .int (I (iv h a0 (a3 + 3))), .retAddr 0, .retAddr 0, .retAddr 0] [] h (fun v h2 => R 208 970 [.ref a0, .ref 0, .ref 400, .int (I a3)] (v :: []) h2 P)) ∧ ((band (iv h a0 a3) 63) = 22 → (tg h a0 = 20 ∨ tg h a0 = 30) ∧ ((ln h a0 : Int) ≤ 2147483648) ∧ (0 ≤ (a3 + 1)) ∧ ((a3 + 1) < ln h a0) ∧ (okg 208 97 [.ref a0, .ref 0, .ref 400, .int (I a3)] [] [.ref 0, .int (I (iv h a0 (a3 + 1)))] = true) ∧ (tg h 0 = 12) ∧ R 97 0 [.ref 0, .int (I (iv h a0 (a3 + 1))), .retAddr 0, .retAddr 0, .retAddr 0, .retAddr 0, .retAddr 0] [] h (fun v h2 => R 208 1003 [.ref a0, .ref 0, .ref 400, .int (I a3)] (v :: []) h2 P)) ∧ ((band (iv h a0 a3) 63) = 23 → (tg h a0 = 20 ∨ tg h a0 = 30) ∧ ((ln h a0 : Int) ≤ 2147483648) ∧ (0 ≤ (a3 + 1)) ∧ ((a3 + 1) < ln h a0) ∧ (tg h a0 = 20 ∨ tg h a0 = 30) ∧ ((ln h a0 : Int) ≤ 2147483648) ∧ (0 ≤ (a3 + 2)) ∧ ((a3 + 2) < ln h a0) ∧ (tg h a0 = 20 ∨ tg h a0 = 30) ∧ ((ln h a0 : Int) ≤ 2147483648) ∧ (0 ≤ (a3 + 3)) ∧ ((a3 + 3) < ln h a0) ∧ (tg h a0 = 20 ∨ tg h a0 = 30) ∧ ((ln h a0 : Int) ≤ 2147483648) ∧ (0 ≤ (a3 + 4)) ∧ ((a3 + 4) < ln h a0) ∧ (okg 208 98 [.ref a0, .ref 0, .ref 400, .int (I a3)] [] [.ref 0, .int (I (iv h a0 (a3 + 1))), .int (I (iv h a0 (a3 + 2))), .int (I (iv h a0 (a3 + 3))), .int (I (iv h a0 (a3 + 4)))] = true) ∧ (tg h 0 = 12) ∧ R 98 0 [.ref 0, .int (I (iv h a0 (a3 + 1))), .int (I (iv h a0 (a3 + 2))), .int (I (iv h a0 (a3 + 3))), .int (I (iv h a0 (a3 + 4))), .retAddr 0, .retAddr 0, .retAddr 0] [] h (fun v h2 => R 208 1041 [.ref a0, .ref 0, .ref 400, .int (I a3)] (v :: []) h2 P)) ∧ ((band (iv h a0 a3) 63) = 24 → (tg h a0 = 20 ∨ tg h a0 = 30) ∧ ((ln h a0 : Int) ≤ 2147483648) ∧ (0 ≤ (a3 + 1)) ∧ ((a3 + 1) < ln h a0) ∧ (tg h a0 = 20 ∨ tg h a0 = 30) ∧ ((ln h a0 : Int) ≤ 2147483648) ∧ (0 ≤ (a3 + 2)) ∧ ((a3 + 2) < ln h a0) ∧ (tg h 0 = 12) ∧ R 100 0 [.ref 0, .int (I (iv h a0 (a3 + 1))), .int (I (iv h a0 (a3 + 2)))] [] h (fun v h2 => R 208 1085 [.ref a0, .ref 0, .ref 400, .int (I a3)] (v :: []) h2 P)) ∧ ((band (iv h a0 a3) 63) = 25 → (tg h a0 = 20 ∨ tg h a0 = 30) ∧ ((ln h a0 : Int) ≤ 2147483648) ∧ (0 ≤ (a3 + 1)) ∧ ((a3 + 1) < ln h a0) ∧ (tg h 0 = 12) ∧ R 101 0 [.ref 0, .int (I (iv h a0 (a3 + 1)))] [] h (fun v h2 => R 208 1113 [.ref a0, .ref 0, .ref 400, .int (I a3)] (v :: []) h2 P)) ∧ ((band (iv h a0 a3) 63) = 26 → (tg h a0 = 20 ∨ tg h a0 = 30) ∧ ((ln h a0 : Int) ≤ 2147483648) ∧ (0 ≤ (a3 + 1)) ∧ ((a3 + 1) < ln h a0) ∧ (tg h a0 = 20 ∨ tg h a0 = 30) ∧ ((ln h a0 : Int) ≤ 2147483648) ∧ (0 ≤ (a3 + 2)) ∧ ((a3 + 2) < ln h a0) ∧ (okg 208 102 [.ref a0, .ref 0, .ref 400, .int (I a3)] [] [.ref 0, .int (I (iv h a0 (a3 + 1))), .int (I (iv h a0 (a3 + 2)))] = true) ∧ (tg h 0 = 12) ∧ R 102 0 [.ref 0, .int (I (iv h a0 (a3 + 1))), .int (I (iv h a0 (a3 + 2))), .retAddr 0, .retAddr 0, .retAddr 0, .retAddr 0, .retAddr 0] [] h (fun v h2 => R 208 1141 [.ref a0, .ref 0, .ref 400, .int (I a3)] (v :: []) h2 P)) ∧ ((band (iv h a0 a3) 63) = 27 → (tg h a0 = 20 ∨ tg h a0 = 30) ∧ ((ln h a0 : Int) ≤ 2147483648) ∧ (0 ≤ (a3 + 1)) ∧ ((a3 + 1) < ln h a0) ∧ (tg h a0 = 20 ∨ tg h a0 = 30) ∧ ((ln h a0 : Int) ≤ 2147483648) ∧ (0 ≤ (a3 + 2)) ∧ ((a3 + 2) < ln h a0) ∧ (tg h a0 = 20 ∨ tg h a0 = 30) ∧ ((ln h a0 : Int) ≤ 2147483648) ∧ (0 ≤ (a3 + 3)) ∧ ((a3 + 3) < ln h a0) ∧ (tg h a0 = 20 ∨ tg h a0 = 30) ∧ ((ln h a0 : Int) ≤ 2147483648) ∧ (0 ≤ (a3 + 4)) ∧ ((a3 + 4) < ln h a0) ∧ (tg h a0 = 20 ∨ tg h a0 = 30) ∧ ((ln h a0 : Int) ≤ 2147483648) ∧ (0 ≤ (a3 + 5)) ∧ ((a3 + 5) < ln h a0) ∧ (tg h a0 = 20 ∨ tg h a0 = 30) ∧ ((ln h a0 : Int) ≤ 2147483648) ∧ (0 ≤ (a3 + 6)) ∧ ((a3 + 6) < ln h a0) ∧ (okg 208 104 [.ref a0, .ref 0, .ref 400, .int (I a3)] [] [.ref 0, .int (I (iv h a0 (a3 + 1))), .int (I (iv h a0 (a3 + 2))), .int (I (iv h a0 (a3 + 3))), .int (I (iv h a0 (a3 + 4))), .int (I (iv h a0 (a3 + 5))), .int (I (iv h a0 (a3 + 6)))] = true) ∧ (tg h 0 = 12) ∧ R 104 0 [.ref 0, .int (I (iv h a0 (a3 + 1))), .int (I (iv h a0 (a3 + 2))), .int (I (iv h a0 (a3 + 3))), .int (I (iv h a0 (a3 + 4))), .int (I (iv h a0 (a3 + 5))), .int (I (iv h a0 (a3 + 6))), .retAddr 0, .retAddr 0, .retAddr 0, .retAddr 0, .retAddr 0, .retAddr 0] [] h (fun v h2 => R 208 1195 [.ref a0, .ref 0, .ref 400, .int (I a3)] (v :: []) h2 P)) ∧ ((band (iv h a0 a3) 63) = 28 → (tg h a0 = 20 ∨ tg h a0 = 30) ∧ ((ln h a0 : Int) ≤ 2147483648) ∧ (0 ≤ (a3 + 1)) ∧ ((a3 + 1) < ln h a0) ∧ (tg h a0 = 20 ∨ tg h a0 = 30) ∧ ((ln h a0 : Int) ≤ 2147483648) ∧ (0 ≤ (a3 + 2)) ∧ ((a3 + 2) < ln h a0) ∧ (okg 208 105 [.ref a0, .ref 0, .ref 400, .int (I a3)] [] [.ref 0, .int (I (iv h a0 (a3 + 1))), .int (I (iv h a0 (a3 + 2)))] = true) ∧ (tg h 0 = 12) ∧ R 105 0 [.ref 0, .int (I (iv h a0 (a3 + 1))), .int (I (iv h a0 (a3 + 2))), .retAddr 0, .retAddr 0, .retAddr 0, .retAddr 0, .retAddr 0] [] h (fun v h2 => R 208 1249 [.ref a0, .ref 0, .ref 400, .int (I a3)] (v :: []) h2 P)) ∧ ((band (iv h a0 a3) 63) = 29 → (tg h a0 = 20 ∨ tg h a0 = 30) ∧ ((ln h a0 : Int) ≤ 2147483648) ∧ (0 ≤ (a3 + 1)) ∧ ((a3 + 1) < ln h a0) ∧ (tg h a0 = 20 ∨ tg h a0 = 30) ∧ ((ln h a0 : Int) ≤ 2147483648) ∧ (0 ≤ (a3 + 2)) ∧ ((a3 + 2) < ln h a0) ∧ (tg h a0 = 20 ∨ tg h a0 = 30) ∧ ((ln h a0 : Int) ≤ 2147483648) ∧ (0 ≤ (a3 + 3)) ∧ ((a3 + 3) < ln h a0) ∧ (tg h 0 = 12) ∧ R 106 0 [.ref 0, .int (I (iv h a0 (a3 + 1))), .int (I (iv h a0 (a3 + 2))), .int (I (iv h a0 (a3 + 3)))] [] h (fun v h2 => R 208 1287 [.ref a0, .ref 0, .ref 400, .int (I a3)] (v :: []) h2 P)) ∧ ((band (iv h a0 a3) 63) = 30 → (tg h a0 = 20 ∨ tg h a0 = 30) ∧ ((ln h a0 : Int) ≤ 2147483648) ∧ (0 ≤ (a3 + 1)) ∧ ((a3 + 1) < ln h a0) ∧ (tg h 0 = 12) ∧ R 108 0 [.ref 0, .int (I (iv h a0 (a3 + 1))), .retAddr 0] [] h (fun v h2 => R 208 1320 [.ref a0, .ref 0, .ref 400, .int (I a3)] (v :: []) h2 P)) ∧ ((band (iv h a0 a3) 63) = 31 → (tg h a0 = 20 ∨ tg h a0 = 30) ∧ ((ln h a0 : Int) ≤ 2147483648) ∧ (0 ≤ (a3 + 1)) ∧ ((a3 + 1) < ln h a0) ∧ (tg h a0 = 20 ∨ tg h a0 = 30) ∧ ((ln h a0 : Int) ≤ 2147483648) ∧ (0 ≤ (a3 + 2)) ∧ ((a3 + 2) < ln h a0) ∧ (tg h a0 = 20 ∨ tg h a0 = 30) ∧ ((ln h a0 : Int) ≤ 2147483648) ∧ (0 ≤ (a3 + 3)) ∧ ((a3 + 3) < ln h a0) ∧ (tg h 0 = 12) ∧ R 109 0 [.ref 0, .int (I (iv h a0 (a3 + 1))), .int (I (iv h a0 (a3 + 2))), .int (I (iv h a0 (a3 + 3))), .retAddr 0] [] h (fun v h2 => R 208 1353 [.ref a0, .ref 0, .ref 400, .int (I a3)] (v :: []) h2 P)) ∧ ((band (iv h a0 a3) 63) = 32 → (tg h a0 = 20 ∨ tg h a0 = 30) ∧ ((ln h a0 : Int) ≤ 2147483648) ∧ (0 ≤ (a3 + 1)) ∧ ((a3 + 1) < ln h a0) ∧ (tg h a0 = 20 ∨ tg h a0 = 30) ∧ ((ln h a0 : Int) ≤ 2147483648) ∧ (0 ≤ (a3 + 2)) ∧ ((a3 + 2) < ln h a0) ∧ (tg h a0 = 20 ∨ tg h a0 = 30) ∧ ((ln h a0 : Int) ≤ 2147483648) ∧ (0 ≤ (a3 + 3)) ∧ ((a3 + 3) < ln h a0) ∧ (tg h 0 = 12) ∧ R 111 0 [.ref 0, .int (I (iv h a0 (a3 + 1))), .int (I (iv h a0 (a3 + 2))), .int (I (iv h a0 (a3 + 3)))] [] h (fun v h2 => R 208 1396 [.ref a0, .ref 0, .ref 400, .int (I a3)] (v :: []) h2 P)) ∧ ((band (iv h a0 a3) 63) = 33 → (tg h a0 = 20 ∨ tg h a0 = 30) ∧ ((ln h a0 : Int) ≤ 2147483648) ∧ (0 ≤ (a3 + 1)) ∧ ((a3 + 1) < ln h a0) ∧ (tg h a0 = 20 ∨ tg h a0 = 30) ∧ ((ln h a0 : Int) ≤ 2147483648) ∧ (0 ≤ (a3 + 2)) ∧ ((a3 + 2) < ln h a0) ∧ (tg h a0 = 20 ∨ tg h a0 = 30) ∧ ((ln h a0 : Int) ≤ 2147483648) ∧ (0 ≤ (a3 + 3)) ∧ ((a3 + 3) < ln h a0) ∧ (tg h a0 = 20 ∨ tg h a0 = 30) ∧ ((ln h a0 : Int) ≤ 2147483648) ∧ (0 ≤ (a3 + 4)) ∧ ((a3 + 4) < ln h a0) ∧ (tg h a0 = 20 ∨ tg h a0 = 30) ∧ ((ln h a0 : Int) ≤ 2147483648) ∧ (0 ≤ (a3 + 5)) ∧ ((a3 + 5) < ln h a0) ∧ (tg h 0 = 12) ∧ R 112 0 [.ref 0, .int (I (iv h a0 (a3 + 1))), .int (I (iv h a0 (a3 + 2))), .int (I (iv h a0 (a3 + 3))), .int (I (iv h a0 (a3 + 4))), .int (I (iv h a0 (a3 + 5))), .retAddr 0, .retAddr 0] [] h (fun v h2 => R 208 1450 [.ref a0, .ref 0, .ref 400, .int (I a3)] (v :: []) h2 P)) ∧ ((band (iv h a0 a3) 63) = 34 → (tg h a0 = 20 ∨ tg h a0 = 30) ∧ ((ln h a0 : Int) ≤ 2147483648) ∧ (0 ≤ (a3 + 1)) ∧ ((a3 + 1) < ln h a0) ∧ (tg h 0 = 12) ∧ R 113 0 [.ref 0, .int (I (iv h a0 (a3 + 1)))] [] h (fun v h2 => R 208 1493 [.ref a0, .ref 0, .ref 400, .int (I a3)] (v :: []) h2 P)) ∧ ((band (iv h a0 a3) 63) = 35 → (tg h a0 = 20 ∨ tg h a0 = 30) ∧ ((ln h a0 : Int) ≤ 2147483648) ∧ (0 ≤ (a3 + 1)) ∧ ((a3 + 1) < ln h a0) ∧ (tg h 0 = 12) ∧ R 119 0 [.ref 0, .int (I (iv h a0 (a3 + 1)))] [] h (fun v h2 => R 208 1516 [.ref a0, .ref 0, .ref 400, .int (I a3)] (v :: []) h2 P)) ∧ ((band (iv h a0 a3) 63) = 36 → (tg h a0 = 20 ∨ tg h a0 = 30) ∧ ((ln h a0 : Int) ≤ 2147483648) ∧ (0 ≤ (a3 + 1)) ∧ ((a3 + 1) < ln h a0) ∧ (tg h a0 = 20 ∨ tg h a0 = 30) ∧ ((ln h a0 : Int) ≤ 2147483648) ∧ (0 ≤ (a3 + 2)) ∧ ((a3 + 2) < ln h a0) ∧ (tg h 0 = 12) ∧ R 122 0 [.ref 0, .int (I (iv h a0 (a3 + 1))), .int (I (iv h a0 (a3 + 2)))] [] h (fun v h2 => R 208 1544 [.ref a0, .ref 0, .ref 400, .int (I a3)] (v :: []) h2 P)) ∧ ((band (iv h a0 a3) 63) = 37 → (tg h 0 = 12) ∧ R 123 0 [.ref 0] [] h (fun v h2 => R 208 1567 [.ref a0, .ref 0, .ref 400, .int (I a3)] (v :: []) h2 P)) ∧ ((band (iv h a0 a3) 63) = 38 → (tg h 0 = 12) ∧ R 124 0 [.ref 0] [] h (fun v h2 => R 208 1580 [.ref a0, .ref 0, .ref 400, .int (I a3)] (v :: []) h2 P)) ∧ ((band (iv h a0 a3) 63) = 39 → (tg h a0 = 20 ∨ tg h a0 = 30) ∧ ((ln h a0 : Int) ≤ 2147483648) ∧ (0 ≤ (a3 + 1)) ∧ ((a3 + 1) < ln h a0) ∧ (tg h 0 = 12) ∧ R 125 0 [.ref 0, .int (I (iv h a0 (a3 + 1)))] [] h (fun v h2 => R 208 1598 [.ref a0, .ref 0, .ref 400, .int (I a3)] (v :: []) h2 P))) ∧ ((band (iv h a0 a3) 63) < 0 ∨ 39 < (band (iv h a0 a3) 63) → R 208 18 [.ref a0, .ref 0, .ref 400, .int (I (a3 + 7))] [] h P))))) : R 208 18 [.ref a0, .ref 0, .ref 400, .int (I a3)] [] h P := by
  refine R_iload_n (Dat dd_L_law 10 rfl) rfl ?_
  refine R_aload_n (Dat dd_L_law 11 rfl) rfl rfl ?_
  obtain ⟨g1, T⟩ := T
  refine R_alen (Dat dd_L_law 12 rfl) g1 ?_
  refine R_bipush (Dat dd_L_law 13 rfl) (a := 7) rfl ?_
  refine R_isub (Dat dd_L_law 14 rfl) ?_
  obtain ⟨g2, T⟩ := T
  obtain ⟨g3, T⟩ := T
  refine R_ic_gt (Dat dd_L_law 15 rfl) rfl g2 g3 (fun c => ?_) (fun c => ?_)
  · replace T := T.1 c
    refine R_iconst (Dat dd_L_law 1186 rfl) ?_
    exact R_ireturn (Dat dd_L_law 1187 rfl) rfl T
  · replace T := T.2 c
    refine R_aload_n (Dat dd_L_law 16 rfl) rfl rfl ?_
    refine R_iload_n (Dat dd_L_law 17 rfl) rfl ?_
    obtain ⟨g4, T⟩ := T
    obtain ⟨g5, T⟩ := T
    obtain ⟨g6, T⟩ := T
    obtain ⟨g7, T⟩ := T
    refine R_iaload (Dat dd_L_law 18 rfl) g4 g5 g6 g7 ?_
    refine R_bipush (Dat dd_L_law 19 rfl) (a := 63) rfl ?_
    refine R_iand (Dat dd_L_law 20 rfl) ?_
    obtain ⟨g8, T⟩ := T
    refine R_tsw (lo := 0) (hi := 39) (Dat dd_L_law 21 rfl) (td := 1612) (ts := [208, 261, 294, 317, 330, 353, 386, 439, 482, 505, 558, 591, 644, 657, 670, 703, 746, 789, 832, 865, 908, 951, 994, 1017, 1071, 1104, 1127, 1160, 1235, 1268, 1311, 1334, 1377, 1421, 1484, 1507, 1530, 1563, 1576, 1589]) g8 rfl rfl rfl rfl (fun i hi hc => ?_) (fun c => ?_)
    · obtain ⟨T, -⟩ := T
      have hi : i < 40 := hi
      rcases (show i = 0 ∨ i = 1 ∨ i = 2 ∨ i = 3 ∨ i = 4 ∨ i = 5 ∨ i = 6 ∨ i = 7 ∨ i = 8 ∨ i = 9 ∨ i = 10 ∨ i = 11 ∨ i = 12 ∨ i = 13 ∨ i = 14 ∨ i = 15 ∨ i = 16 ∨ i = 17 ∨ i = 18 ∨ i = 19 ∨ i = 20 ∨ i = 21 ∨ i = 22 ∨ i = 23 ∨ i = 24 ∨ i = 25 ∨ i = 26 ∨ i = 27 ∨ i = 28 ∨ i = 29 ∨ i = 30 ∨ i = 31 ∨ i = 32 ∨ i = 33 ∨ i = 34 ∨ i = 35 ∨ i = 36 ∨ i = 37 ∨ i = 38 ∨ i = 39 by omega) with rfl | rfl | rfl | rfl | rfl | rfl | rfl | rfl | rfl | rfl | rfl | rfl | rfl | rfl | rfl | rfl | rfl | rfl | rfl | rfl | rfl | rfl | rfl | rfl | rfl | rfl | rfl | rfl | rfl | rfl | rfl | rfl | rfl | rfl | rfl | rfl | rfl | rfl | rfl | rfl
      · replace T := T.1 (by exact hc)
        refine R_aload_n (Dat dd_L_law 22 rfl) rfl rfl ?_
        refine R_aload_n (Dat dd_L_law 23 rfl) rfl rfl ?_
        refine R_iload_n (Dat dd_L_law 24 rfl) rfl ?_
        refine R_iconst (Dat dd_L_law 25 rfl) ?_
        refine R_iadd (Dat dd_L_law 26 rfl) ?_
        obtain ⟨g9, T⟩ := T
        obtain ⟨g10, T⟩ := T
        obtain ⟨g11, T⟩ := T
        obtain ⟨g12, T⟩ := T
        refine R_iaload (Dat dd_L_law 27 rfl) g9 g10 g11 g12 ?_
        refine R_aload_n (Dat dd_L_law 28 rfl) rfl rfl ?_
        refine R_iload_n (Dat dd_L_law 29 rfl) rfl ?_
        refine R_iconst (Dat dd_L_law 30 rfl) ?_
        refine R_iadd (Dat dd_L_law 31 rfl) ?_
        obtain ⟨g13, T⟩ := T
        obtain ⟨g14, T⟩ := T
        obtain ⟨g15, T⟩ := T
        obtain ⟨g16, T⟩ := T
        refine R_iaload (Dat dd_L_law 32 rfl) g13 g14 g15 g16 ?_
        refine R_aload_n (Dat dd_L_law 33 rfl) rfl rfl ?_
        refine R_iload_n (Dat dd_L_law 34 rfl) rfl ?_
        refine R_iconst (Dat dd_L_law 35 rfl) ?_
        refine R_iadd (Dat dd_L_law 36 rfl) ?_
        obtain ⟨g17, T⟩ := T
        obtain ⟨g18, T⟩ := T
        obtain ⟨g19, T⟩ := T
        obtain ⟨g20, T⟩ := T
        refine R_iaload (Dat dd_L_law 37 rfl) g17 g18 g19 g20 ?_
        refine R_aload_n (Dat dd_L_law 38 rfl) rfl rfl ?_
        refine R_iload_n (Dat dd_L_law 39 rfl) rfl ?_
        refine R_iconst (Dat dd_L_law 40 rfl) ?_
        refine R_iadd (Dat dd_L_law 41 rfl) ?_
        obtain ⟨g21, T⟩ := T
        obtain ⟨g22, T⟩ := T
        obtain ⟨g23, T⟩ := T
        obtain ⟨g24, T⟩ := T
        refine R_iaload (Dat dd_L_law 42 rfl) g21 g22 g23 g24 ?_
        obtain ⟨g25, T⟩ := T
        obtain ⟨g26, T⟩ := T
        exact R_call1 (Dat dd_L_law 43 rfl) rfl g26 rfl rfl rfl g25 rfl T
      · replace T := T.2.1 (by exact hc)
        refine R_aload_n (Dat dd_L_law 69 rfl) rfl rfl ?_
        refine R_aload_n (Dat dd_L_law 70 rfl) rfl rfl ?_
        refine R_iload_n (Dat dd_L_law 71 rfl) rfl ?_
        refine R_iconst (Dat dd_L_law 72 rfl) ?_
        refine R_iadd (Dat dd_L_law 73 rfl) ?_
        obtain ⟨g27, T⟩ := T
        obtain ⟨g28, T⟩ := T
        obtain ⟨g29, T⟩ := T
        obtain ⟨g30, T⟩ := T
        refine R_iaload (Dat dd_L_law 74 rfl) g27 g28 g29 g30 ?_
        refine R_aload_n (Dat dd_L_law 75 rfl) rfl rfl ?_
        refine R_iload_n (Dat dd_L_law 76 rfl) rfl ?_
        refine R_iconst (Dat dd_L_law 77 rfl) ?_
        refine R_iadd (Dat dd_L_law 78 rfl) ?_
        obtain ⟨g31, T⟩ := T
        obtain ⟨g32, T⟩ := T
        obtain ⟨g33, T⟩ := T
        obtain ⟨g34, T⟩ := T
        refine R_iaload (Dat dd_L_law 79 rfl) g31 g32 g33 g34 ?_
        obtain ⟨g35, T⟩ := T
        exact R_call1 (Dat dd_L_law 80 rfl) rfl g35 rfl rfl rfl rfl rfl T
      · replace T := T.2.2.1 (by exact hc)
        refine R_aload_n (Dat dd_L_law 96 rfl) rfl rfl ?_
        refine R_aload_n (Dat dd_L_law 97 rfl) rfl rfl ?_
        refine R_iload_n (Dat dd_L_law 98 rfl) rfl ?_
        refine R_iconst (Dat dd_L_law 99 rfl) ?_
        refine R_iadd (Dat dd_L_law 100 rfl) ?_
        obtain ⟨g36, T⟩ := T
        obtain ⟨g37, T⟩ := T
        obtain ⟨g38, T⟩ := T
        obtain ⟨g39, T⟩ := T
        refine R_iaload (Dat dd_L_law 101 rfl) g36 g37 g38 g39 ?_
        obtain ⟨g40, T⟩ := T
        exact R_call1 (Dat dd_L_law 102 rfl) rfl g40 rfl rfl rfl rfl rfl T
      · replace T := T.2.2.2.1 (by exact hc)
        refine R_aload_n (Dat dd_L_law 113 rfl) rfl rfl ?_
        obtain ⟨g41, T⟩ := T
        exact R_call1 (Dat dd_L_law 114 rfl) rfl g41 rfl rfl rfl rfl rfl T
      · replace T := T.2.2.2.2.1 (by exact hc)
        refine R_aload_n (Dat dd_L_law 120 rfl) rfl rfl ?_
        refine R_aload_n (Dat dd_L_law 121 rfl) rfl rfl ?_
        refine R_iload_n (Dat dd_L_law 122 rfl) rfl ?_
        refine R_iconst (Dat dd_L_law 123 rfl) ?_
        refine R_iadd (Dat dd_L_law 124 rfl) ?_
        obtain ⟨g42, T⟩ := T
        obtain ⟨g43, T⟩ := T
        obtain ⟨g44, T⟩ := T
        obtain ⟨g45, T⟩ := T
        refine R_iaload (Dat dd_L_law 125 rfl) g42 g43 g44 g45 ?_
        obtain ⟨g46, T⟩ := T
        exact R_call1 (Dat dd_L_law 126 rfl) rfl g46 rfl rfl rfl rfl rfl T
      · replace T := T.2.2.2.2.2.1 (by exact hc)
        refine R_aload_n (Dat dd_L_law 137 rfl) rfl rfl ?_
        refine R_aload_n (Dat dd_L_law 138 rfl) rfl rfl ?_
        refine R_iload_n (Dat dd_L_law 139 rfl) rfl ?_
        refine R_iconst (Dat dd_L_law 140 rfl) ?_
        refine R_iadd (Dat dd_L_law 141 rfl) ?_
        obtain ⟨g47, T⟩ := T
        obtain ⟨g48, T⟩ := T
        obtain ⟨g49, T⟩ := T
        obtain ⟨g50, T⟩ := T
        refine R_iaload (Dat dd_L_law 142 rfl) g47 g48 g49 g50 ?_
        refine R_aload_n (Dat dd_L_law 143 rfl) rfl rfl ?_
        refine R_iload_n (Dat dd_L_law 144 rfl) rfl ?_
        refine R_iconst (Dat dd_L_law 145 rfl) ?_
        refine R_iadd (Dat dd_L_law 146 rfl) ?_
        obtain ⟨g51, T⟩ := T
        obtain ⟨g52, T⟩ := T
        obtain ⟨g53, T⟩ := T
        obtain ⟨g54, T⟩ := T
        refine R_iaload (Dat dd_L_law 147 rfl) g51 g52 g53 g54 ?_
        obtain ⟨g55, T⟩ := T
        exact R_call1 (Dat dd_L_law 148 rfl) rfl g55 rfl rfl rfl rfl rfl T
      · replace T := T.2.2.2.2.2.2.1 (by exact hc)
        refine R_aload_n (Dat dd_L_law 164 rfl) rfl rfl ?_
        refine R_aload_n (Dat dd_L_law 165 rfl) rfl rfl ?_
        refine R_iload_n (Dat dd_L_law 166 rfl) rfl ?_
        refine R_iconst (Dat dd_L_law 167 rfl) ?_
        refine R_iadd (Dat dd_L_law 168 rfl) ?_
        obtain ⟨g56, T⟩ := T
        obtain ⟨g57, T⟩ := T
        obtain ⟨g58, T⟩ := T
        obtain ⟨g59, T⟩ := T
        refine R_iaload (Dat dd_L_law 169 rfl) g56 g57 g58 g59 ?_
        refine R_aload_n (Dat dd_L_law 170 rfl) rfl rfl ?_
        refine R_iload_n (Dat dd_L_law 171 rfl) rfl ?_
        refine R_iconst (Dat dd_L_law 172 rfl) ?_
        refine R_iadd (Dat dd_L_law 173 rfl) ?_
        obtain ⟨g60, T⟩ := T
        obtain ⟨g61, T⟩ := T
        obtain ⟨g62, T⟩ := T
        obtain ⟨g63, T⟩ := T
        refine R_iaload (Dat dd_L_law 174 rfl) g60 g61 g62 g63 ?_
        refine R_aload_n (Dat dd_L_law 175 rfl) rfl rfl ?_
        refine R_iload_n (Dat dd_L_law 176 rfl) rfl ?_
        refine R_iconst (Dat dd_L_law 177 rfl) ?_
        refine R_iadd (Dat dd_L_law 178 rfl) ?_
        obtain ⟨g64, T⟩ := T
        obtain ⟨g65, T⟩ := T
        obtain ⟨g66, T⟩ := T
        obtain ⟨g67, T⟩ := T
        refine R_iaload (Dat dd_L_law 179 rfl) g64 g65 g66 g67 ?_
        refine R_aload_n (Dat dd_L_law 180 rfl) rfl rfl ?_
        refine R_iload_n (Dat dd_L_law 181 rfl) rfl ?_
        refine R_iconst (Dat dd_L_law 182 rfl) ?_
        refine R_iadd (Dat dd_L_law 183 rfl) ?_
        obtain ⟨g68, T⟩ := T
        obtain ⟨g69, T⟩ := T
        obtain ⟨g70, T⟩ := T
        obtain ⟨g71, T⟩ := T
        refine R_iaload (Dat dd_L_law 184 rfl) g68 g69 g70 g71 ?_
        obtain ⟨g72, T⟩ := T
        obtain ⟨g73, T⟩ := T
        exact R_call1 (Dat dd_L_law 185 rfl) rfl g73 rfl rfl rfl g72 rfl T
      · replace T := T.2.2.2.2.2.2.2.1 (by exact hc)
        refine R_aload_n (Dat dd_L_law 211 rfl) rfl rfl ?_
        refine R_aload_n (Dat dd_L_law 212 rfl) rfl rfl ?_
        refine R_iload_n (Dat dd_L_law 213 rfl) rfl ?_
        refine R_iconst (Dat dd_L_law 214 rfl) ?_
        refine R_iadd (Dat dd_L_law 215 rfl) ?_
        obtain ⟨g74, T⟩ := T
        obtain ⟨g75, T⟩ := T
        obtain ⟨g76, T⟩ := T
        obtain ⟨g77, T⟩ := T
        refine R_iaload (Dat dd_L_law 216 rfl) g74 g75 g76 g77 ?_
        refine R_aload_n (Dat dd_L_law 217 rfl) rfl rfl ?_
        refine R_iload_n (Dat dd_L_law 218 rfl) rfl ?_
        refine R_iconst (Dat dd_L_law 219 rfl) ?_
        refine R_iadd (Dat dd_L_law 220 rfl) ?_
        obtain ⟨g78, T⟩ := T
        obtain ⟨g79, T⟩ := T
        obtain ⟨g80, T⟩ := T
        obtain ⟨g81, T⟩ := T
        refine R_iaload (Dat dd_L_law 221 rfl) g78 g79 g80 g81 ?_
        refine R_aload_n (Dat dd_L_law 222 rfl) rfl rfl ?_
        refine R_iload_n (Dat dd_L_law 223 rfl) rfl ?_
        refine R_iconst (Dat dd_L_law 224 rfl) ?_
        refine R_iadd (Dat dd_L_law 225 rfl) ?_
        obtain ⟨g82, T⟩ := T
        obtain ⟨g83, T⟩ := T
        obtain ⟨g84, T⟩ := T
        obtain ⟨g85, T⟩ := T
        refine R_iaload (Dat dd_L_law 226 rfl) g82 g83 g84 g85 ?_
        obtain ⟨g86, T⟩ := T
        exact R_call1 (Dat dd_L_law 227 rfl) rfl g86 rfl rfl rfl rfl rfl T
      · replace T := T.2.2.2.2.2.2.2.2.1 (by exact hc)
        refine R_aload_n (Dat dd_L_law 248 rfl) rfl rfl ?_
        refine R_aload_n (Dat dd_L_law 249 rfl) rfl rfl ?_
        refine R_iload_n (Dat dd_L_law 250 rfl) rfl ?_
        refine R_iconst (Dat dd_L_law 251 rfl) ?_
        refine R_iadd (Dat dd_L_law 252 rfl) ?_
        obtain ⟨g87, T⟩ := T
        obtain ⟨g88, T⟩ := T
        obtain ⟨g89, T⟩ := T
        obtain ⟨g90, T⟩ := T
        refine R_iaload (Dat dd_L_law 253 rfl) g87 g88 g89 g90 ?_
        obtain ⟨g91, T⟩ := T
        exact R_call1 (Dat dd_L_law 254 rfl) rfl g91 rfl rfl rfl rfl rfl T
      · replace T := T.2.2.2.2.2.2.2.2.2.1 (by exact hc)
        refine R_aload_n (Dat dd_L_law 265 rfl) rfl rfl ?_
        refine R_aload_n (Dat dd_L_law 266 rfl) rfl rfl ?_
        refine R_iload_n (Dat dd_L_law 267 rfl) rfl ?_
        refine R_iconst (Dat dd_L_law 268 rfl) ?_
        refine R_iadd (Dat dd_L_law 269 rfl) ?_
        obtain ⟨g92, T⟩ := T
        obtain ⟨g93, T⟩ := T
        obtain ⟨g94, T⟩ := T
        obtain ⟨g95, T⟩ := T
        refine R_iaload (Dat dd_L_law 270 rfl) g92 g93 g94 g95 ?_
        refine R_aload_n (Dat dd_L_law 271 rfl) rfl rfl ?_
        refine R_iload_n (Dat dd_L_law 272 rfl) rfl ?_
        refine R_iconst (Dat dd_L_law 273 rfl) ?_
        refine R_iadd (Dat dd_L_law 274 rfl) ?_
        obtain ⟨g96, T⟩ := T
        obtain ⟨g97, T⟩ := T
        obtain ⟨g98, T⟩ := T
        obtain ⟨g99, T⟩ := T
        refine R_iaload (Dat dd_L_law 275 rfl) g96 g97 g98 g99 ?_
        refine R_aload_n (Dat dd_L_law 276 rfl) rfl rfl ?_
        refine R_iload_n (Dat dd_L_law 277 rfl) rfl ?_
        refine R_iconst (Dat dd_L_law 278 rfl) ?_
        refine R_iadd (Dat dd_L_law 279 rfl) ?_
        obtain ⟨g100, T⟩ := T
        obtain ⟨g101, T⟩ := T
        obtain ⟨g102, T⟩ := T
        obtain ⟨g103, T⟩ := T
        refine R_iaload (Dat dd_L_law 280 rfl) g100 g101 g102 g103 ?_
        refine R_aload_n (Dat dd_L_law 281 rfl) rfl rfl ?_
        refine R_iload_n (Dat dd_L_law 282 rfl) rfl ?_
        refine R_iconst (Dat dd_L_law 283 rfl) ?_
        refine R_iadd (Dat dd_L_law 284 rfl) ?_
        obtain ⟨g104, T⟩ := T
        obtain ⟨g105, T⟩ := T
        obtain ⟨g106, T⟩ := T
        obtain ⟨g107, T⟩ := T
        refine R_iaload (Dat dd_L_law 285 rfl) g104 g105 g106 g107 ?_
        obtain ⟨g108, T⟩ := T
        exact R_call1 (Dat dd_L_law 286 rfl) rfl g108 rfl rfl rfl rfl rfl T
      · replace T := T.2.2.2.2.2.2.2.2.2.2.1 (by exact hc)
        refine R_aload_n (Dat dd_L_law 312 rfl) rfl rfl ?_
        refine R_aload_n (Dat dd_L_law 313 rfl) rfl rfl ?_
        refine R_iload_n (Dat dd_L_law 314 rfl) rfl ?_
        refine R_iconst (Dat dd_L_law 315 rfl) ?_
        refine R_iadd (Dat dd_L_law 316 rfl) ?_
        obtain ⟨g109, T⟩ := T
        obtain ⟨g110, T⟩ := T
        obtain ⟨g111, T⟩ := T
        obtain ⟨g112, T⟩ := T
        refine R_iaload (Dat dd_L_law 317 rfl) g109 g110 g111 g112 ?_
        refine R_aload_n (Dat dd_L_law 318 rfl) rfl rfl ?_
        refine R_iload_n (Dat dd_L_law 319 rfl) rfl ?_
        refine R_iconst (Dat dd_L_law 320 rfl) ?_
        refine R_iadd (Dat dd_L_law 321 rfl) ?_
        obtain ⟨g113, T⟩ := T
        obtain ⟨g114, T⟩ := T
        obtain ⟨g115, T⟩ := T
        obtain ⟨g116, T⟩ := T
        refine R_iaload (Dat dd_L_law 322 rfl) g113 g114 g115 g116 ?_
        obtain ⟨g117, T⟩ := T
        obtain ⟨g118, T⟩ := T
        exact R_call1 (Dat dd_L_law 323 rfl) rfl g118 rfl rfl rfl g117 rfl T
      · replace T := T.2.2.2.2.2.2.2.2.2.2.2.1 (by exact hc)
        refine R_aload_n (Dat dd_L_law 339 rfl) rfl rfl ?_
        refine R_aload_n (Dat dd_L_law 340 rfl) rfl rfl ?_
        refine R_iload_n (Dat dd_L_law 341 rfl) rfl ?_
        refine R_iconst (Dat dd_L_law 342 rfl) ?_
        refine R_iadd (Dat dd_L_law 343 rfl) ?_
        obtain ⟨g119, T⟩ := T
        obtain ⟨g120, T⟩ := T
        obtain ⟨g121, T⟩ := T
        obtain ⟨g122, T⟩ := T
        refine R_iaload (Dat dd_L_law 344 rfl) g119 g120 g121 g122 ?_
        refine R_aload_n (Dat dd_L_law 345 rfl) rfl rfl ?_
        refine R_iload_n (Dat dd_L_law 346 rfl) rfl ?_
        refine R_iconst (Dat dd_L_law 347 rfl) ?_
        refine R_iadd (Dat dd_L_law 348 rfl) ?_
        obtain ⟨g123, T⟩ := T
        obtain ⟨g124, T⟩ := T
        obtain ⟨g125, T⟩ := T
        obtain ⟨g126, T⟩ := T
        refine R_iaload (Dat dd_L_law 349 rfl) g123 g124 g125 g126 ?_
        refine R_aload_n (Dat dd_L_law 350 rfl) rfl rfl ?_
        refine R_iload_n (Dat dd_L_law 351 rfl) rfl ?_
        refine R_iconst (Dat dd_L_law 352 rfl) ?_
        refine R_iadd (Dat dd_L_law 353 rfl) ?_
        obtain ⟨g127, T⟩ := T
        obtain ⟨g128, T⟩ := T
        obtain ⟨g129, T⟩ := T
        obtain ⟨g130, T⟩ := T
        refine R_iaload (Dat dd_L_law 354 rfl) g127 g128 g129 g130 ?_
        refine R_aload_n (Dat dd_L_law 355 rfl) rfl rfl ?_
        refine R_iload_n (Dat dd_L_law 356 rfl) rfl ?_
        refine R_iconst (Dat dd_L_law 357 rfl) ?_
        refine R_iadd (Dat dd_L_law 358 rfl) ?_
        obtain ⟨g131, T⟩ := T
        obtain ⟨g132, T⟩ := T
        obtain ⟨g133, T⟩ := T
        obtain ⟨g134, T⟩ := T
        refine R_iaload (Dat dd_L_law 359 rfl) g131 g132 g133 g134 ?_
        obtain ⟨g135, T⟩ := T
        obtain ⟨g136, T⟩ := T
        exact R_call1 (Dat dd_L_law 360 rfl) rfl g136 rfl rfl rfl g135 rfl T
      · replace T := T.2.2.2.2.2.2.2.2.2.2.2.2.1 (by exact hc)
        refine R_aload_n (Dat dd_L_law 386 rfl) rfl rfl ?_
        obtain ⟨g137, T⟩ := T
        exact R_call1 (Dat dd_L_law 387 rfl) rfl g137 rfl rfl rfl rfl rfl T
      · replace T := T.2.2.2.2.2.2.2.2.2.2.2.2.2.1 (by exact hc)
        refine R_aload_n (Dat dd_L_law 393 rfl) rfl rfl ?_
        obtain ⟨g138, T⟩ := T
        exact R_call1 (Dat dd_L_law 394 rfl) rfl g138 rfl rfl rfl rfl rfl T
      · replace T := T.2.2.2.2.2.2.2.2.2.2.2.2.2.2.1 (by exact hc)
        refine R_aload_n (Dat dd_L_law 400 rfl) rfl rfl ?_
        refine R_aload_n (Dat dd_L_law 401 rfl) rfl rfl ?_
        refine R_iload_n (Dat dd_L_law 402 rfl) rfl ?_
        refine R_iconst (Dat dd_L_law 403 rfl) ?_
        refine R_iadd (Dat dd_L_law 404 rfl) ?_
        obtain ⟨g139, T⟩ := T
        obtain ⟨g140, T⟩ := T
        obtain ⟨g141, T⟩ := T
        obtain ⟨g142, T⟩ := T
        refine R_iaload (Dat dd_L_law 405 rfl) g139 g140 g141 g142 ?_
        refine R_aload_n (Dat dd_L_law 406 rfl) rfl rfl ?_
        refine R_iload_n (Dat dd_L_law 407 rfl) rfl ?_
        refine R_iconst (Dat dd_L_law 408 rfl) ?_
        refine R_iadd (Dat dd_L_law 409 rfl) ?_
        obtain ⟨g143, T⟩ := T
        obtain ⟨g144, T⟩ := T
        obtain ⟨g145, T⟩ := T
        obtain ⟨g146, T⟩ := T
        refine R_iaload (Dat dd_L_law 410 rfl) g143 g144 g145 g146 ?_
        obtain ⟨g147, T⟩ := T
        obtain ⟨g148, T⟩ := T
        exact R_call1 (Dat dd_L_law 411 rfl) rfl g148 rfl rfl rfl g147 rfl T
      · replace T := T.2.2.2.2.2.2.2.2.2.2.2.2.2.2.2.1 (by exact hc)
        refine R_aload_n (Dat dd_L_law 427 rfl) rfl rfl ?_
        refine R_aload_n (Dat dd_L_law 428 rfl) rfl rfl ?_
        refine R_iload_n (Dat dd_L_law 429 rfl) rfl ?_
        refine R_iconst (Dat dd_L_law 430 rfl) ?_
        refine R_iadd (Dat dd_L_law 431 rfl) ?_
        obtain ⟨g149, T⟩ := T
        obtain ⟨g150, T⟩ := T
        obtain ⟨g151, T⟩ := T
        obtain ⟨g152, T⟩ := T
        refine R_iaload (Dat dd_L_law 432 rfl) g149 g150 g151 g152 ?_
        refine R_aload_n (Dat dd_L_law 433 rfl) rfl rfl ?_
        refine R_iload_n (Dat dd_L_law 434 rfl) rfl ?_
        refine R_iconst (Dat dd_L_law 435 rfl) ?_
        refine R_iadd (Dat dd_L_law 436 rfl) ?_
        obtain ⟨g153, T⟩ := T
        obtain ⟨g154, T⟩ := T
        obtain ⟨g155, T⟩ := T
        obtain ⟨g156, T⟩ := T
        refine R_iaload (Dat dd_L_law 437 rfl) g153 g154 g155 g156 ?_
        refine R_aload_n (Dat dd_L_law 438 rfl) rfl rfl ?_
        refine R_iload_n (Dat dd_L_law 439 rfl) rfl ?_
        refine R_iconst (Dat dd_L_law 440 rfl) ?_
        refine R_iadd (Dat dd_L_law 441 rfl) ?_
        obtain ⟨g157, T⟩ := T
        obtain ⟨g158, T⟩ := T
        obtain ⟨g159, T⟩ := T
        obtain ⟨g160, T⟩ := T
        refine R_iaload (Dat dd_L_law 442 rfl) g157 g158 g159 g160 ?_
        obtain ⟨g161, T⟩ := T
        obtain ⟨g162, T⟩ := T
        exact R_call1 (Dat dd_L_law 443 rfl) rfl g162 rfl rfl rfl g161 rfl T
      · replace T := T.2.2.2.2.2.2.2.2.2.2.2.2.2.2.2.2.1 (by exact hc)
        refine R_aload_n (Dat dd_L_law 464 rfl) rfl rfl ?_
        refine R_aload_n (Dat dd_L_law 465 rfl) rfl rfl ?_
        refine R_iload_n (Dat dd_L_law 466 rfl) rfl ?_
        refine R_iconst (Dat dd_L_law 467 rfl) ?_
        refine R_iadd (Dat dd_L_law 468 rfl) ?_
        obtain ⟨g163, T⟩ := T
        obtain ⟨g164, T⟩ := T
        obtain ⟨g165, T⟩ := T
        obtain ⟨g166, T⟩ := T
        refine R_iaload (Dat dd_L_law 469 rfl) g163 g164 g165 g166 ?_
        refine R_aload_n (Dat dd_L_law 470 rfl) rfl rfl ?_
        refine R_iload_n (Dat dd_L_law 471 rfl) rfl ?_
        refine R_iconst (Dat dd_L_law 472 rfl) ?_
        refine R_iadd (Dat dd_L_law 473 rfl) ?_
        obtain ⟨g167, T⟩ := T
        obtain ⟨g168, T⟩ := T
        obtain ⟨g169, T⟩ := T
        obtain ⟨g170, T⟩ := T
        refine R_iaload (Dat dd_L_law 474 rfl) g167 g168 g169 g170 ?_
        refine R_aload_n (Dat dd_L_law 475 rfl) rfl rfl ?_
        refine R_iload_n (Dat dd_L_law 476 rfl) rfl ?_
        refine R_iconst (Dat dd_L_law 477 rfl) ?_
        refine R_iadd (Dat dd_L_law 478 rfl) ?_
        obtain ⟨g171, T⟩ := T
        obtain ⟨g172, T⟩ := T
        obtain ⟨g173, T⟩ := T
        obtain ⟨g174, T⟩ := T
        refine R_iaload (Dat dd_L_law 479 rfl) g171 g172 g173 g174 ?_
        obtain ⟨g175, T⟩ := T
        obtain ⟨g176, T⟩ := T
        exact R_call1 (Dat dd_L_law 480 rfl) rfl g176 rfl rfl rfl g175 rfl T
      · replace T := T.2.2.2.2.2.2.2.2.2.2.2.2.2.2.2.2.2.1 (by exact hc)
        refine R_aload_n (Dat dd_L_law 501 rfl) rfl rfl ?_
        refine R_aload_n (Dat dd_L_law 502 rfl) rfl rfl ?_
        refine R_iload_n (Dat dd_L_law 503 rfl) rfl ?_
        refine R_iconst (Dat dd_L_law 504 rfl) ?_
        refine R_iadd (Dat dd_L_law 505 rfl) ?_
        obtain ⟨g177, T⟩ := T
        obtain ⟨g178, T⟩ := T
        obtain ⟨g179, T⟩ := T
        obtain ⟨g180, T⟩ := T
        refine R_iaload (Dat dd_L_law 506 rfl) g177 g178 g179 g180 ?_
        refine R_aload_n (Dat dd_L_law 507 rfl) rfl rfl ?_
        refine R_iload_n (Dat dd_L_law 508 rfl) rfl ?_
        refine R_iconst (Dat dd_L_law 509 rfl) ?_
        refine R_iadd (Dat dd_L_law 510 rfl) ?_
        obtain ⟨g181, T⟩ := T
        obtain ⟨g182, T⟩ := T
        obtain ⟨g183, T⟩ := T
        obtain ⟨g184, T⟩ := T
        refine R_iaload (Dat dd_L_law 511 rfl) g181 g182 g183 g184 ?_
        refine R_aload_n (Dat dd_L_law 512 rfl) rfl rfl ?_
        refine R_iload_n (Dat dd_L_law 513 rfl) rfl ?_
        refine R_iconst (Dat dd_L_law 514 rfl) ?_
        refine R_iadd (Dat dd_L_law 515 rfl) ?_
        obtain ⟨g185, T⟩ := T
        obtain ⟨g186, T⟩ := T
        obtain ⟨g187, T⟩ := T
        obtain ⟨g188, T⟩ := T
        refine R_iaload (Dat dd_L_law 516 rfl) g185 g186 g187 g188 ?_
        obtain ⟨g189, T⟩ := T
        obtain ⟨g190, T⟩ := T
        exact R_call1 (Dat dd_L_law 517 rfl) rfl g190 rfl rfl rfl g189 rfl T
      · replace T := T.2.2.2.2.2.2.2.2.2.2.2.2.2.2.2.2.2.2.1 (by exact hc)
        refine R_aload_n (Dat dd_L_law 538 rfl) rfl rfl ?_
        refine R_aload_n (Dat dd_L_law 539 rfl) rfl rfl ?_
        refine R_iload_n (Dat dd_L_law 540 rfl) rfl ?_
        refine R_iconst (Dat dd_L_law 541 rfl) ?_
        refine R_iadd (Dat dd_L_law 542 rfl) ?_
        obtain ⟨g191, T⟩ := T
        obtain ⟨g192, T⟩ := T
        obtain ⟨g193, T⟩ := T
        obtain ⟨g194, T⟩ := T
        refine R_iaload (Dat dd_L_law 543 rfl) g191 g192 g193 g194 ?_
        refine R_aload_n (Dat dd_L_law 544 rfl) rfl rfl ?_
        refine R_iload_n (Dat dd_L_law 545 rfl) rfl ?_
        refine R_iconst (Dat dd_L_law 546 rfl) ?_
        refine R_iadd (Dat dd_L_law 547 rfl) ?_
        obtain ⟨g195, T⟩ := T
        obtain ⟨g196, T⟩ := T
        obtain ⟨g197, T⟩ := T
        obtain ⟨g198, T⟩ := T
        refine R_iaload (Dat dd_L_law 548 rfl) g195 g196 g197 g198 ?_
        obtain ⟨g199, T⟩ := T
        exact R_call1 (Dat dd_L_law 549 rfl) rfl g199 rfl rfl rfl rfl rfl T
      · replace T := T.2.2.2.2.2.2.2.2.2.2.2.2.2.2.2.2.2.2.2.1 (by exact hc)
        refine R_aload_n (Dat dd_L_law 565 rfl) rfl rfl ?_
        refine R_aload_n (Dat dd_L_law 566 rfl) rfl rfl ?_
        refine R_iload_n (Dat dd_L_law 567 rfl) rfl ?_
        refine R_iconst (Dat dd_L_law 568 rfl) ?_
        refine R_iadd (Dat dd_L_law 569 rfl) ?_
        obtain ⟨g200, T⟩ := T
        obtain ⟨g201, T⟩ := T
        obtain ⟨g202, T⟩ := T
        obtain ⟨g203, T⟩ := T
        refine R_iaload (Dat dd_L_law 570 rfl) g200 g201 g202 g203 ?_
        refine R_aload_n (Dat dd_L_law 571 rfl) rfl rfl ?_
        refine R_iload_n (Dat dd_L_law 572 rfl) rfl ?_
        refine R_iconst (Dat dd_L_law 573 rfl) ?_
        refine R_iadd (Dat dd_L_law 574 rfl) ?_
        obtain ⟨g204, T⟩ := T
        obtain ⟨g205, T⟩ := T
        obtain ⟨g206, T⟩ := T
        obtain ⟨g207, T⟩ := T
        refine R_iaload (Dat dd_L_law 575 rfl) g204 g205 g206 g207 ?_
        refine R_aload_n (Dat dd_L_law 576 rfl) rfl rfl ?_
        refine R_iload_n (Dat dd_L_law 577 rfl) rfl ?_
        refine R_iconst (Dat dd_L_law 578 rfl) ?_
        refine R_iadd (Dat dd_L_law 579 rfl) ?_
        obtain ⟨g208, T⟩ := T
        obtain ⟨g209, T⟩ := T
        obtain ⟨g210, T⟩ := T
        obtain ⟨g211, T⟩ := T
        refine R_iaload (Dat dd_L_law 580 rfl) g208 g209 g210 g211 ?_
        obtain ⟨g212, T⟩ := T
        obtain ⟨g213, T⟩ := T
        exact R_call1 (Dat dd_L_law 581 rfl) rfl g213 rfl rfl rfl g212 rfl T
      · replace T := T.2.2.2.2.2.2.2.2.2.2.2.2.2.2.2.2.2.2.2.2.1 (by exact hc)
        refine R_aload_n (Dat dd_L_law 602 rfl) rfl rfl ?_
        refine R_aload_n (Dat dd_L_law 603 rfl) rfl rfl ?_
        refine R_iload_n (Dat dd_L_law 604 rfl) rfl ?_
        refine R_iconst (Dat dd_L_law 605 rfl) ?_
        refine R_iadd (Dat dd_L_law 606 rfl) ?_
        obtain ⟨g214, T⟩ := T
        obtain ⟨g215, T⟩ := T
        obtain ⟨g216, T⟩ := T
        obtain ⟨g217, T⟩ := T
        refine R_iaload (Dat dd_L_law 607 rfl) g214 g215 g216 g217 ?_
        refine R_aload_n (Dat dd_L_law 608 rfl) rfl rfl ?_
        refine R_iload_n (Dat dd_L_law 609 rfl) rfl ?_
        refine R_iconst (Dat dd_L_law 610 rfl) ?_
        refine R_iadd (Dat dd_L_law 611 rfl) ?_
        obtain ⟨g218, T⟩ := T
        obtain ⟨g219, T⟩ := T
        obtain ⟨g220, T⟩ := T
        obtain ⟨g221, T⟩ := T
        refine R_iaload (Dat dd_L_law 612 rfl) g218 g219 g220 g221 ?_
        refine R_aload_n (Dat dd_L_law 613 rfl) rfl rfl ?_
        refine R_iload_n (Dat dd_L_law 614 rfl) rfl ?_
        refine R_iconst (Dat dd_L_law 615 rfl) ?_
        refine R_iadd (Dat dd_L_law 616 rfl) ?_
        obtain ⟨g222, T⟩ := T
        obtain ⟨g223, T⟩ := T
        obtain ⟨g224, T⟩ := T
        obtain ⟨g225, T⟩ := T
        refine R_iaload (Dat dd_L_law 617 rfl) g222 g223 g224 g225 ?_
        obtain ⟨g226, T⟩ := T
        obtain ⟨g227, T⟩ := T
        exact R_call1 (Dat dd_L_law 618 rfl) rfl g227 rfl rfl rfl g226 rfl T
      · replace T := T.2.2.2.2.2.2.2.2.2.2.2.2.2.2.2.2.2.2.2.2.2.1 (by exact hc)
        refine R_aload_n (Dat dd_L_law 639 rfl) rfl rfl ?_
        refine R_aload_n (Dat dd_L_law 640 rfl) rfl rfl ?_
        refine R_iload_n (Dat dd_L_law 641 rfl) rfl ?_
        refine R_iconst (Dat dd_L_law 642 rfl) ?_
        refine R_iadd (Dat dd_L_law 643 rfl) ?_
        obtain ⟨g228, T⟩ := T
        obtain ⟨g229, T⟩ := T
        obtain ⟨g230, T⟩ := T
        obtain ⟨g231, T⟩ := T
        refine R_iaload (Dat dd_L_law 644 rfl) g228 g229 g230 g231 ?_
        refine R_aload_n (Dat dd_L_law 645 rfl) rfl rfl ?_
        refine R_iload_n (Dat dd_L_law 646 rfl) rfl ?_
        refine R_iconst (Dat dd_L_law 647 rfl) ?_
        refine R_iadd (Dat dd_L_law 648 rfl) ?_
        obtain ⟨g232, T⟩ := T
        obtain ⟨g233, T⟩ := T
        obtain ⟨g234, T⟩ := T
        obtain ⟨g235, T⟩ := T
        refine R_iaload (Dat dd_L_law 649 rfl) g232 g233 g234 g235 ?_
        refine R_aload_n (Dat dd_L_law 650 rfl) rfl rfl ?_
        refine R_iload_n (Dat dd_L_law 651 rfl) rfl ?_
        refine R_iconst (Dat dd_L_law 652 rfl) ?_
        refine R_iadd (Dat dd_L_law 653 rfl) ?_
        obtain ⟨g236, T⟩ := T
        obtain ⟨g237, T⟩ := T
        obtain ⟨g238, T⟩ := T
        obtain ⟨g239, T⟩ := T
        refine R_iaload (Dat dd_L_law 654 rfl) g236 g237 g238 g239 ?_
        obtain ⟨g240, T⟩ := T
        obtain ⟨g241, T⟩ := T
        exact R_call1 (Dat dd_L_law 655 rfl) rfl g241 rfl rfl rfl g240 rfl T
      · replace T := T.2.2.2.2.2.2.2.2.2.2.2.2.2.2.2.2.2.2.2.2.2.2.1 (by exact hc)
        refine R_aload_n (Dat dd_L_law 676 rfl) rfl rfl ?_
        refine R_aload_n (Dat dd_L_law 677 rfl) rfl rfl ?_
        refine R_iload_n (Dat dd_L_law 678 rfl) rfl ?_
        refine R_iconst (Dat dd_L_law 679 rfl) ?_
        refine R_iadd (Dat dd_L_law 680 rfl) ?_
        obtain ⟨g242, T⟩ := T
        obtain ⟨g243, T⟩ := T
        obtain ⟨g244, T⟩ := T
        obtain ⟨g245, T⟩ := T
        refine R_iaload (Dat dd_L_law 681 rfl) g242 g243 g244 g245 ?_
        obtain ⟨g246, T⟩ := T
        obtain ⟨g247, T⟩ := T
        exact R_call1 (Dat dd_L_law 682 rfl) rfl g247 rfl rfl rfl g246 rfl T
      · replace T := T.2.2.2.2.2.2.2.2.2.2.2.2.2.2.2.2.2.2.2.2.2.2.2.1 (by exact hc)
        refine R_aload_n (Dat dd_L_law 693 rfl) rfl rfl ?_
        refine R_aload_n (Dat dd_L_law 694 rfl) rfl rfl ?_
        refine R_iload_n (Dat dd_L_law 695 rfl) rfl ?_
        refine R_iconst (Dat dd_L_law 696 rfl) ?_
        refine R_iadd (Dat dd_L_law 697 rfl) ?_
        obtain ⟨g248, T⟩ := T
        obtain ⟨g249, T⟩ := T
        obtain ⟨g250, T⟩ := T
        obtain ⟨g251, T⟩ := T
        refine R_iaload (Dat dd_L_law 698 rfl) g248 g249 g250 g251 ?_
        refine R_aload_n (Dat dd_L_law 699 rfl) rfl rfl ?_
        refine R_iload_n (Dat dd_L_law 700 rfl) rfl ?_
        refine R_iconst (Dat dd_L_law 701 rfl) ?_
        refine R_iadd (Dat dd_L_law 702 rfl) ?_
        obtain ⟨g252, T⟩ := T
        obtain ⟨g253, T⟩ := T
        obtain ⟨g254, T⟩ := T
        obtain ⟨g255, T⟩ := T
        refine R_iaload (Dat dd_L_law 703 rfl) g252 g253 g254 g255 ?_
        refine R_aload_n (Dat dd_L_law 704 rfl) rfl rfl ?_
        refine R_iload_n (Dat dd_L_law 705 rfl) rfl ?_
        refine R_iconst (Dat dd_L_law 706 rfl) ?_
        refine R_iadd (Dat dd_L_law 707 rfl) ?_
        obtain ⟨g256, T⟩ := T
        obtain ⟨g257, T⟩ := T
        obtain ⟨g258, T⟩ := T
        obtain ⟨g259, T⟩ := T
        refine R_iaload (Dat dd_L_law 708 rfl) g256 g257 g258 g259 ?_
        refine R_aload_n (Dat dd_L_law 709 rfl) rfl rfl ?_
        refine R_iload_n (Dat dd_L_law 710 rfl) rfl ?_
        refine R_iconst (Dat dd_L_law 711 rfl) ?_
        refine R_iadd (Dat dd_L_law 712 rfl) ?_
        obtain ⟨g260, T⟩ := T
        obtain ⟨g261, T⟩ := T
        obtain ⟨g262, T⟩ := T
        obtain ⟨g263, T⟩ := T
        refine R_iaload (Dat dd_L_law 713 rfl) g260 g261 g262 g263 ?_
        obtain ⟨g264, T⟩ := T
        obtain ⟨g265, T⟩ := T
        exact R_call1 (Dat dd_L_law 714 rfl) rfl g265 rfl rfl rfl g264 rfl T
      · replace T := T.2.2.2.2.2.2.2.2.2.2.2.2.2.2.2.2.2.2.2.2.2.2.2.2.1 (by exact hc)
        refine R_aload_n (Dat dd_L_law 741 rfl) rfl rfl ?_
        refine R_aload_n (Dat dd_L_law 742 rfl) rfl rfl ?_
        refine R_iload_n (Dat dd_L_law 743 rfl) rfl ?_
        refine R_iconst (Dat dd_L_law 744 rfl) ?_
        refine R_iadd (Dat dd_L_law 745 rfl) ?_
        obtain ⟨g266, T⟩ := T
        obtain ⟨g267, T⟩ := T
        obtain ⟨g268, T⟩ := T
        obtain ⟨g269, T⟩ := T
        refine R_iaload (Dat dd_L_law 746 rfl) g266 g267 g268 g269 ?_
        refine R_aload_n (Dat dd_L_law 747 rfl) rfl rfl ?_
        refine R_iload_n (Dat dd_L_law 748 rfl) rfl ?_
        refine R_iconst (Dat dd_L_law 749 rfl) ?_
        refine R_iadd (Dat dd_L_law 750 rfl) ?_
        obtain ⟨g270, T⟩ := T
        obtain ⟨g271, T⟩ := T
        obtain ⟨g272, T⟩ := T
        obtain ⟨g273, T⟩ := T
        refine R_iaload (Dat dd_L_law 751 rfl) g270 g271 g272 g273 ?_
        obtain ⟨g274, T⟩ := T
        exact R_call1 (Dat dd_L_law 752 rfl) rfl g274 rfl rfl rfl rfl rfl T
      · replace T := T.2.2.2.2.2.2.2.2.2.2.2.2.2.2.2.2.2.2.2.2.2.2.2.2.2.1 (by exact hc)
        refine R_aload_n (Dat dd_L_law 768 rfl) rfl rfl ?_
        refine R_aload_n (Dat dd_L_law 769 rfl) rfl rfl ?_
        refine R_iload_n (Dat dd_L_law 770 rfl) rfl ?_
        refine R_iconst (Dat dd_L_law 771 rfl) ?_
        refine R_iadd (Dat dd_L_law 772 rfl) ?_
        obtain ⟨g275, T⟩ := T
        obtain ⟨g276, T⟩ := T
        obtain ⟨g277, T⟩ := T
        obtain ⟨g278, T⟩ := T
        refine R_iaload (Dat dd_L_law 773 rfl) g275 g276 g277 g278 ?_
        obtain ⟨g279, T⟩ := T
        exact R_call1 (Dat dd_L_law 774 rfl) rfl g279 rfl rfl rfl rfl rfl T
      · replace T := T.2.2.2.2.2.2.2.2.2.2.2.2.2.2.2.2.2.2.2.2.2.2.2.2.2.2.1 (by exact hc)
        refine R_aload_n (Dat dd_L_law 785 rfl) rfl rfl ?_
        refine R_aload_n (Dat dd_L_law 786 rfl) rfl rfl ?_
        refine R_iload_n (Dat dd_L_law 787 rfl) rfl ?_
        refine R_iconst (Dat dd_L_law 788 rfl) ?_
        refine R_iadd (Dat dd_L_law 789 rfl) ?_
        obtain ⟨g280, T⟩ := T
        obtain ⟨g281, T⟩ := T
        obtain ⟨g282, T⟩ := T
        obtain ⟨g283, T⟩ := T
        refine R_iaload (Dat dd_L_law 790 rfl) g280 g281 g282 g283 ?_
        refine R_aload_n (Dat dd_L_law 791 rfl) rfl rfl ?_
        refine R_iload_n (Dat dd_L_law 792 rfl) rfl ?_
        refine R_iconst (Dat dd_L_law 793 rfl) ?_
        refine R_iadd (Dat dd_L_law 794 rfl) ?_
        obtain ⟨g284, T⟩ := T
        obtain ⟨g285, T⟩ := T
        obtain ⟨g286, T⟩ := T
        obtain ⟨g287, T⟩ := T
        refine R_iaload (Dat dd_L_law 795 rfl) g284 g285 g286 g287 ?_
        obtain ⟨g288, T⟩ := T
        obtain ⟨g289, T⟩ := T
        exact R_call1 (Dat dd_L_law 796 rfl) rfl g289 rfl rfl rfl g288 rfl T
      · replace T := T.2.2.2.2.2.2.2.2.2.2.2.2.2.2.2.2.2.2.2.2.2.2.2.2.2.2.2.1 (by exact hc)
        refine R_aload_n (Dat dd_L_law 812 rfl) rfl rfl ?_
        refine R_aload_n (Dat dd_L_law 813 rfl) rfl rfl ?_
        refine R_iload_n (Dat dd_L_law 814 rfl) rfl ?_
        refine R_iconst (Dat dd_L_law 815 rfl) ?_
        refine R_iadd (Dat dd_L_law 816 rfl) ?_
        obtain ⟨g290, T⟩ := T
        obtain ⟨g291, T⟩ := T
        obtain ⟨g292, T⟩ := T
        obtain ⟨g293, T⟩ := T
        refine R_iaload (Dat dd_L_law 817 rfl) g290 g291 g292 g293 ?_
        refine R_aload_n (Dat dd_L_law 818 rfl) rfl rfl ?_
        refine R_iload_n (Dat dd_L_law 819 rfl) rfl ?_
        refine R_iconst (Dat dd_L_law 820 rfl) ?_
        refine R_iadd (Dat dd_L_law 821 rfl) ?_
        obtain ⟨g294, T⟩ := T
        obtain ⟨g295, T⟩ := T
        obtain ⟨g296, T⟩ := T
        obtain ⟨g297, T⟩ := T
        refine R_iaload (Dat dd_L_law 822 rfl) g294 g295 g296 g297 ?_
        refine R_aload_n (Dat dd_L_law 823 rfl) rfl rfl ?_
        refine R_iload_n (Dat dd_L_law 824 rfl) rfl ?_
        refine R_iconst (Dat dd_L_law 825 rfl) ?_
        refine R_iadd (Dat dd_L_law 826 rfl) ?_
        obtain ⟨g298, T⟩ := T
        obtain ⟨g299, T⟩ := T
        obtain ⟨g300, T⟩ := T
        obtain ⟨g301, T⟩ := T
        refine R_iaload (Dat dd_L_law 827 rfl) g298 g299 g300 g301 ?_
        refine R_aload_n (Dat dd_L_law 828 rfl) rfl rfl ?_
        refine R_iload_n (Dat dd_L_law 829 rfl) rfl ?_
        refine R_iconst (Dat dd_L_law 830 rfl) ?_
        refine R_iadd (Dat dd_L_law 831 rfl) ?_
        obtain ⟨g302, T⟩ := T
        obtain ⟨g303, T⟩ := T
        obtain ⟨g304, T⟩ := T
        obtain ⟨g305, T⟩ := T
        refine R_iaload (Dat dd_L_law 832 rfl) g302 g303 g304 g305 ?_
        refine R_aload_n (Dat dd_L_law 833 rfl) rfl rfl ?_
        refine R_iload_n (Dat dd_L_law 834 rfl) rfl ?_
        refine R_iconst (Dat dd_L_law 835 rfl) ?_
        refine R_iadd (Dat dd_L_law 836 rfl) ?_
        obtain ⟨g306, T⟩ := T
        obtain ⟨g307, T⟩ := T
        obtain ⟨g308, T⟩ := T
        obtain ⟨g309, T⟩ := T
        refine R_iaload (Dat dd_L_law 837 rfl) g306 g307 g308 g309 ?_
        refine R_aload_n (Dat dd_L_law 838 rfl) rfl rfl ?_
        refine R_iload_n (Dat dd_L_law 839 rfl) rfl ?_
        refine R_bipush (Dat dd_L_law 840 rfl) (a := 6) rfl ?_
        refine R_iadd (Dat dd_L_law 841 rfl) ?_
        obtain ⟨g310, T⟩ := T
        obtain ⟨g311, T⟩ := T
        obtain ⟨g312, T⟩ := T
        obtain ⟨g313, T⟩ := T
        refine R_iaload (Dat dd_L_law 842 rfl) g310 g311 g312 g313 ?_
        obtain ⟨g314, T⟩ := T
        obtain ⟨g315, T⟩ := T
        exact R_call1 (Dat dd_L_law 843 rfl) rfl g315 rfl rfl rfl g314 rfl T
      · replace T := T.2.2.2.2.2.2.2.2.2.2.2.2.2.2.2.2.2.2.2.2.2.2.2.2.2.2.2.2.1 (by exact hc)
        refine R_aload_n (Dat dd_L_law 879 rfl) rfl rfl ?_
        refine R_aload_n (Dat dd_L_law 880 rfl) rfl rfl ?_
        refine R_iload_n (Dat dd_L_law 881 rfl) rfl ?_
        refine R_iconst (Dat dd_L_law 882 rfl) ?_
        refine R_iadd (Dat dd_L_law 883 rfl) ?_
        obtain ⟨g316, T⟩ := T
        obtain ⟨g317, T⟩ := T
        obtain ⟨g318, T⟩ := T
        obtain ⟨g319, T⟩ := T
        refine R_iaload (Dat dd_L_law 884 rfl) g316 g317 g318 g319 ?_
        refine R_aload_n (Dat dd_L_law 885 rfl) rfl rfl ?_
        refine R_iload_n (Dat dd_L_law 886 rfl) rfl ?_
        refine R_iconst (Dat dd_L_law 887 rfl) ?_
        refine R_iadd (Dat dd_L_law 888 rfl) ?_
        obtain ⟨g320, T⟩ := T
        obtain ⟨g321, T⟩ := T
        obtain ⟨g322, T⟩ := T
        obtain ⟨g323, T⟩ := T
        refine R_iaload (Dat dd_L_law 889 rfl) g320 g321 g322 g323 ?_
        obtain ⟨g324, T⟩ := T
        obtain ⟨g325, T⟩ := T
        exact R_call1 (Dat dd_L_law 890 rfl) rfl g325 rfl rfl rfl g324 rfl T
      · replace T := T.2.2.2.2.2.2.2.2.2.2.2.2.2.2.2.2.2.2.2.2.2.2.2.2.2.2.2.2.2.1 (by exact hc)
        refine R_aload_n (Dat dd_L_law 906 rfl) rfl rfl ?_
        refine R_aload_n (Dat dd_L_law 907 rfl) rfl rfl ?_
        refine R_iload_n (Dat dd_L_law 908 rfl) rfl ?_
        refine R_iconst (Dat dd_L_law 909 rfl) ?_
        refine R_iadd (Dat dd_L_law 910 rfl) ?_
        obtain ⟨g326, T⟩ := T
        obtain ⟨g327, T⟩ := T
        obtain ⟨g328, T⟩ := T
        obtain ⟨g329, T⟩ := T
        refine R_iaload (Dat dd_L_law 911 rfl) g326 g327 g328 g329 ?_
        refine R_aload_n (Dat dd_L_law 912 rfl) rfl rfl ?_
        refine R_iload_n (Dat dd_L_law 913 rfl) rfl ?_
        refine R_iconst (Dat dd_L_law 914 rfl) ?_
        refine R_iadd (Dat dd_L_law 915 rfl) ?_
        obtain ⟨g330, T⟩ := T
        obtain ⟨g331, T⟩ := T
        obtain ⟨g332, T⟩ := T
        obtain ⟨g333, T⟩ := T
        refine R_iaload (Dat dd_L_law 916 rfl) g330 g331 g332 g333 ?_
        refine R_aload_n (Dat dd_L_law 917 rfl) rfl rfl ?_
        refine R_iload_n (Dat dd_L_law 918 rfl) rfl ?_
        refine R_iconst (Dat dd_L_law 919 rfl) ?_
        refine R_iadd (Dat dd_L_law 920 rfl) ?_
        obtain ⟨g334, T⟩ := T
        obtain ⟨g335, T⟩ := T
        obtain ⟨g336, T⟩ := T
        obtain ⟨g337, T⟩ := T
        refine R_iaload (Dat dd_L_law 921 rfl) g334 g335 g336 g337 ?_
        obtain ⟨g338, T⟩ := T
        exact R_call1 (Dat dd_L_law 922 rfl) rfl g338 rfl rfl rfl rfl rfl T
      · replace T := T.2.2.2.2.2.2.2.2.2.2.2.2.2.2.2.2.2.2.2.2.2.2.2.2.2.2.2.2.2.2.1 (by exact hc)
        refine R_aload_n (Dat dd_L_law 943 rfl) rfl rfl ?_
        refine R_aload_n (Dat dd_L_law 944 rfl) rfl rfl ?_
        refine R_iload_n (Dat dd_L_law 945 rfl) rfl ?_
        refine R_iconst (Dat dd_L_law 946 rfl) ?_
        refine R_iadd (Dat dd_L_law 947 rfl) ?_
        obtain ⟨g339, T⟩ := T
        obtain ⟨g340, T⟩ := T
        obtain ⟨g341, T⟩ := T
        obtain ⟨g342, T⟩ := T
        refine R_iaload (Dat dd_L_law 948 rfl) g339 g340 g341 g342 ?_
        obtain ⟨g343, T⟩ := T
        exact R_call1 (Dat dd_L_law 949 rfl) rfl g343 rfl rfl rfl rfl rfl T
      · replace T := T.2.2.2.2.2.2.2.2.2.2.2.2.2.2.2.2.2.2.2.2.2.2.2.2.2.2.2.2.2.2.2.1 (by exact hc)
        refine R_aload_n (Dat dd_L_law 960 rfl) rfl rfl ?_
        refine R_aload_n (Dat dd_L_law 961 rfl) rfl rfl ?_
        refine R_iload_n (Dat dd_L_law 962 rfl) rfl ?_
        refine R_iconst (Dat dd_L_law 963 rfl) ?_
        refine R_iadd (Dat dd_L_law 964 rfl) ?_
        obtain ⟨g344, T⟩ := T
        obtain ⟨g345, T⟩ := T
        obtain ⟨g346, T⟩ := T
        obtain ⟨g347, T⟩ := T
        refine R_iaload (Dat dd_L_law 965 rfl) g344 g345 g346 g347 ?_
        refine R_aload_n (Dat dd_L_law 966 rfl) rfl rfl ?_
        refine R_iload_n (Dat dd_L_law 967 rfl) rfl ?_
        refine R_iconst (Dat dd_L_law 968 rfl) ?_
        refine R_iadd (Dat dd_L_law 969 rfl) ?_
        obtain ⟨g348, T⟩ := T
        obtain ⟨g349, T⟩ := T
        obtain ⟨g350, T⟩ := T
        obtain ⟨g351, T⟩ := T
        refine R_iaload (Dat dd_L_law 970 rfl) g348 g349 g350 g351 ?_
        refine R_aload_n (Dat dd_L_law 971 rfl) rfl rfl ?_
        refine R_iload_n (Dat dd_L_law 972 rfl) rfl ?_
        refine R_iconst (Dat dd_L_law 973 rfl) ?_
        refine R_iadd (Dat dd_L_law 974 rfl) ?_
        obtain ⟨g352, T⟩ := T
        obtain ⟨g353, T⟩ := T
        obtain ⟨g354, T⟩ := T
        obtain ⟨g355, T⟩ := T
        refine R_iaload (Dat dd_L_law 975 rfl) g352 g353 g354 g355 ?_
        obtain ⟨g356, T⟩ := T
        exact R_call1 (Dat dd_L_law 976 rfl) rfl g356 rfl rfl rfl rfl rfl T
      · replace T := T.2.2.2.2.2.2.2.2.2.2.2.2.2.2.2.2.2.2.2.2.2.2.2.2.2.2.2.2.2.2.2.2.1 (by exact hc)
        refine R_aload_n (Dat dd_L_law 997 rfl) rfl rfl ?_
        refine R_aload_n (Dat dd_L_law 998 rfl) rfl rfl ?_
        refine R_iload_n (Dat dd_L_law 999 rfl) rfl ?_
        refine R_iconst (Dat dd_L_law 1000 rfl) ?_
        refine R_iadd (Dat dd_L_law 1001 rfl) ?_
        obtain ⟨g357, T⟩ := T
        obtain ⟨g358, T⟩ := T
        obtain ⟨g359, T⟩ := T
        obtain ⟨g360, T⟩ := T
        refine R_iaload (Dat dd_L_law 1002 rfl) g357 g358 g359 g360 ?_
        refine R_aload_n (Dat dd_L_law 1003 rfl) rfl rfl ?_
        refine R_iload_n (Dat dd_L_law 1004 rfl) rfl ?_
        refine R_iconst (Dat dd_L_law 1005 rfl) ?_
        refine R_iadd (Dat dd_L_law 1006 rfl) ?_
        obtain ⟨g361, T⟩ := T
        obtain ⟨g362, T⟩ := T
        obtain ⟨g363, T⟩ := T
        obtain ⟨g364, T⟩ := T
        refine R_iaload (Dat dd_L_law 1007 rfl) g361 g362 g363 g364 ?_
        refine R_aload_n (Dat dd_L_law 1008 rfl) rfl rfl ?_
        refine R_iload_n (Dat dd_L_law 1009 rfl) rfl ?_
        refine R_iconst (Dat dd_L_law 1010 rfl) ?_
        refine R_iadd (Dat dd_L_law 1011 rfl) ?_
        obtain ⟨g365, T⟩ := T
        obtain ⟨g366, T⟩ := T
        obtain ⟨g367, T⟩ := T
        obtain ⟨g368, T⟩ := T
        refine R_iaload (Dat dd_L_law 1012 rfl) g365 g366 g367 g368 ?_
        obtain ⟨g369, T⟩ := T
        exact R_call1 (Dat dd_L_law 1013 rfl) rfl g369 rfl rfl rfl rfl rfl T
      · replace T := T.2.2.2.2.2.2.2.2.2.2.2.2.2.2.2.2.2.2.2.2.2.2.2.2.2.2.2.2.2.2.2.2.2.1 (by exact hc)
        refine R_aload_n (Dat dd_L_law 1035 rfl) rfl rfl ?_
        refine R_aload_n (Dat dd_L_law 1036 rfl) rfl rfl ?_
        refine R_iload_n (Dat dd_L_law 1037 rfl) rfl ?_
        refine R_iconst (Dat dd_L_law 1038 rfl) ?_
        refine R_iadd (Dat dd_L_law 1039 rfl) ?_
        obtain ⟨g370, T⟩ := T
        obtain ⟨g371, T⟩ := T
        obtain ⟨g372, T⟩ := T
        obtain ⟨g373, T⟩ := T
        refine R_iaload (Dat dd_L_law 1040 rfl) g370 g371 g372 g373 ?_
        refine R_aload_n (Dat dd_L_law 1041 rfl) rfl rfl ?_
        refine R_iload_n (Dat dd_L_law 1042 rfl) rfl ?_
        refine R_iconst (Dat dd_L_law 1043 rfl) ?_
        refine R_iadd (Dat dd_L_law 1044 rfl) ?_
        obtain ⟨g374, T⟩ := T
        obtain ⟨g375, T⟩ := T
        obtain ⟨g376, T⟩ := T
        obtain ⟨g377, T⟩ := T
        refine R_iaload (Dat dd_L_law 1045 rfl) g374 g375 g376 g377 ?_
        refine R_aload_n (Dat dd_L_law 1046 rfl) rfl rfl ?_
        refine R_iload_n (Dat dd_L_law 1047 rfl) rfl ?_
        refine R_iconst (Dat dd_L_law 1048 rfl) ?_
        refine R_iadd (Dat dd_L_law 1049 rfl) ?_
        obtain ⟨g378, T⟩ := T
        obtain ⟨g379, T⟩ := T
        obtain ⟨g380, T⟩ := T
        obtain ⟨g381, T⟩ := T
        refine R_iaload (Dat dd_L_law 1050 rfl) g378 g379 g380 g381 ?_
        refine R_aload_n (Dat dd_L_law 1051 rfl) rfl rfl ?_
        refine R_iload_n (Dat dd_L_law 1052 rfl) rfl ?_
        refine R_iconst (Dat dd_L_law 1053 rfl) ?_
        refine R_iadd (Dat dd_L_law 1054 rfl) ?_
        obtain ⟨g382, T⟩ := T
        obtain ⟨g383, T⟩ := T
        obtain ⟨g384, T⟩ := T
        obtain ⟨g385, T⟩ := T
        refine R_iaload (Dat dd_L_law 1055 rfl) g382 g383 g384 g385 ?_
        refine R_aload_n (Dat dd_L_law 1056 rfl) rfl rfl ?_
        refine R_iload_n (Dat dd_L_law 1057 rfl) rfl ?_
        refine R_iconst (Dat dd_L_law 1058 rfl) ?_
        refine R_iadd (Dat dd_L_law 1059 rfl) ?_
        obtain ⟨g386, T⟩ := T
        obtain ⟨g387, T⟩ := T
        obtain ⟨g388, T⟩ := T
        obtain ⟨g389, T⟩ := T
        refine R_iaload (Dat dd_L_law 1060 rfl) g386 g387 g388 g389 ?_
        obtain ⟨g390, T⟩ := T
        exact R_call1 (Dat dd_L_law 1061 rfl) rfl g390 rfl rfl rfl rfl rfl T
      · replace T := T.2.2.2.2.2.2.2.2.2.2.2.2.2.2.2.2.2.2.2.2.2.2.2.2.2.2.2.2.2.2.2.2.2.2.1 (by exact hc)
        refine R_aload_n (Dat dd_L_law 1092 rfl) rfl rfl ?_
        refine R_aload_n (Dat dd_L_law 1093 rfl) rfl rfl ?_
        refine R_iload_n (Dat dd_L_law 1094 rfl) rfl ?_
        refine R_iconst (Dat dd_L_law 1095 rfl) ?_
        refine R_iadd (Dat dd_L_law 1096 rfl) ?_
        obtain ⟨g391, T⟩ := T
        obtain ⟨g392, T⟩ := T
        obtain ⟨g393, T⟩ := T
        obtain ⟨g394, T⟩ := T
        refine R_iaload (Dat dd_L_law 1097 rfl) g391 g392 g393 g394 ?_
        obtain ⟨g395, T⟩ := T
        exact R_call1 (Dat dd_L_law 1098 rfl) rfl g395 rfl rfl rfl rfl rfl T
      · replace T := T.2.2.2.2.2.2.2.2.2.2.2.2.2.2.2.2.2.2.2.2.2.2.2.2.2.2.2.2.2.2.2.2.2.2.2.1 (by exact hc)
        refine R_aload_n (Dat dd_L_law 1109 rfl) rfl rfl ?_
        refine R_aload_n (Dat dd_L_law 1110 rfl) rfl rfl ?_
        refine R_iload_n (Dat dd_L_law 1111 rfl) rfl ?_
        refine R_iconst (Dat dd_L_law 1112 rfl) ?_
        refine R_iadd (Dat dd_L_law 1113 rfl) ?_
        obtain ⟨g396, T⟩ := T
        obtain ⟨g397, T⟩ := T
        obtain ⟨g398, T⟩ := T
        obtain ⟨g399, T⟩ := T
        refine R_iaload (Dat dd_L_law 1114 rfl) g396 g397 g398 g399 ?_
        obtain ⟨g400, T⟩ := T
        exact R_call1 (Dat dd_L_law 1115 rfl) rfl g400 rfl rfl rfl rfl rfl T
      · replace T := T.2.2.2.2.2.2.2.2.2.2.2.2.2.2.2.2.2.2.2.2.2.2.2.2.2.2.2.2.2.2.2.2.2.2.2.2.1 (by exact hc)
        refine R_aload_n (Dat dd_L_law 1126 rfl) rfl rfl ?_
        refine R_aload_n (Dat dd_L_law 1127 rfl) rfl rfl ?_
        refine R_iload_n (Dat dd_L_law 1128 rfl) rfl ?_
        refine R_iconst (Dat dd_L_law 1129 rfl) ?_
        refine R_iadd (Dat dd_L_law 1130 rfl) ?_
        obtain ⟨g401, T⟩ := T
        obtain ⟨g402, T⟩ := T
        obtain ⟨g403, T⟩ := T
        obtain ⟨g404, T⟩ := T
        refine R_iaload (Dat dd_L_law 1131 rfl) g401 g402 g403 g404 ?_
        refine R_aload_n (Dat dd_L_law 1132 rfl) rfl rfl ?_
        refine R_iload_n (Dat dd_L_law 1133 rfl) rfl ?_
        refine R_iconst (Dat dd_L_law 1134 rfl) ?_
        refine R_iadd (Dat dd_L_law 1135 rfl) ?_
        obtain ⟨g405, T⟩ := T
        obtain ⟨g406, T⟩ := T
        obtain ⟨g407, T⟩ := T
        obtain ⟨g408, T⟩ := T
        refine R_iaload (Dat dd_L_law 1136 rfl) g405 g406 g407 g408 ?_
        obtain ⟨g409, T⟩ := T
        exact R_call1 (Dat dd_L_law 1137 rfl) rfl g409 rfl rfl rfl rfl rfl T
      · replace T := T.2.2.2.2.2.2.2.2.2.2.2.2.2.2.2.2.2.2.2.2.2.2.2.2.2.2.2.2.2.2.2.2.2.2.2.2.2.1 (by exact hc)
        refine R_aload_n (Dat dd_L_law 1153 rfl) rfl rfl ?_
        obtain ⟨g410, T⟩ := T
        exact R_call1 (Dat dd_L_law 1154 rfl) rfl g410 rfl rfl rfl rfl rfl T
      · replace T := T.2.2.2.2.2.2.2.2.2.2.2.2.2.2.2.2.2.2.2.2.2.2.2.2.2.2.2.2.2.2.2.2.2.2.2.2.2.2.1 (by exact hc)
        refine R_aload_n (Dat dd_L_law 1160 rfl) rfl rfl ?_
        obtain ⟨g411, T⟩ := T
        exact R_call1 (Dat dd_L_law 1161 rfl) rfl g411 rfl rfl rfl rfl rfl T
      · replace T := T.2.2.2.2.2.2.2.2.2.2.2.2.2.2.2.2.2.2.2.2.2.2.2.2.2.2.2.2.2.2.2.2.2.2.2.2.2.2.2 (by exact hc)
        refine R_aload_n (Dat dd_L_law 1167 rfl) rfl rfl ?_
        refine R_aload_n (Dat dd_L_law 1168 rfl) rfl rfl ?_
        refine R_iload_n (Dat dd_L_law 1169 rfl) rfl ?_
        refine R_iconst (Dat dd_L_law 1170 rfl) ?_
        refine R_iadd (Dat dd_L_law 1171 rfl) ?_
        obtain ⟨g412, T⟩ := T
        obtain ⟨g413, T⟩ := T
        obtain ⟨g414, T⟩ := T
        obtain ⟨g415, T⟩ := T
        refine R_iaload (Dat dd_L_law 1172 rfl) g412 g413 g414 g415 ?_
        obtain ⟨g416, T⟩ := T
        exact R_call1 (Dat dd_L_law 1173 rfl) rfl g416 rfl rfl rfl rfl rfl T
    · replace T := T.2 c
      refine R_iinc (Dat dd_L_law 1184 rfl) rfl rfl rfl ?_
      refine R_goto (Dat dd_L_law 1185 rfl) rfl ?_
      exact T
theorem t_L_law_232 {h : Hp} {P : Value → Hp → Prop} {a3 s0 : Int} {a0 : Nat} (T : (tg h a0 = 20 ∨ tg h a0 = 30) ∧ ((ln h a0 : Int) ≤ 2147483648) ∧ (0 ≤ (a3 + 1)) ∧ ((a3 + 1) < ln h a0) ∧ (tg h a0 = 20 ∨ tg h a0 = 30) ∧ ((ln h a0 : Int) ≤ 2147483648) ∧ (0 ≤ (a3 + 2)) ∧ ((a3 + 2) < ln h a0) ∧ (tg h a0 = 20 ∨ tg h a0 = 30) ∧ ((ln h a0 : Int) ≤ 2147483648) ∧ (0 ≤ (a3 + 3)) ∧ ((a3 + 3) < ln h a0) ∧ (tg h a0 = 20 ∨ tg h a0 = 30) ∧ ((ln h a0 : Int) ≤ 2147483648) ∧ (0 ≤ (a3 + 4)) ∧ ((a3 + 4) < ln h a0) ∧ (tg h 400 = 13) ∧ R 127 0 [.ref 400, .int (I (iv h a0 (a3 + 1))), .int (I (iv h a0 (a3 + 2))), .int (I (iv h a0 (a3 + 3))), .int (I (iv h a0 (a3 + 4))), .retAddr 0, .retAddr 0, .retAddr 0] [] h (fun v h2 => R 208 256 [.ref a0, .ref 0, .ref 400, .int (I a3)] (v :: [.int (I s0)]) h2 P)) : R 208 232 [.ref a0, .ref 0, .ref 400, .int (I a3)] [.int (I s0)] h P := by
  refine R_aload_n (Dat dd_L_law 44 rfl) rfl rfl ?_
  refine R_aload_n (Dat dd_L_law 45 rfl) rfl rfl ?_
  refine R_iload_n (Dat dd_L_law 46 rfl) rfl ?_
  refine R_iconst (Dat dd_L_law 47 rfl) ?_
  refine R_iadd (Dat dd_L_law 48 rfl) ?_
  obtain ⟨g1, T⟩ := T
  obtain ⟨g2, T⟩ := T
  obtain ⟨g3, T⟩ := T
  obtain ⟨g4, T⟩ := T
  refine R_iaload (Dat dd_L_law 49 rfl) g1 g2 g3 g4 ?_
  refine R_aload_n (Dat dd_L_law 50 rfl) rfl rfl ?_
  refine R_iload_n (Dat dd_L_law 51 rfl) rfl ?_
  refine R_iconst (Dat dd_L_law 52 rfl) ?_
  refine R_iadd (Dat dd_L_law 53 rfl) ?_
  obtain ⟨g5, T⟩ := T
  obtain ⟨g6, T⟩ := T
  obtain ⟨g7, T⟩ := T
  obtain ⟨g8, T⟩ := T
  refine R_iaload (Dat dd_L_law 54 rfl) g5 g6 g7 g8 ?_
  refine R_aload_n (Dat dd_L_law 55 rfl) rfl rfl ?_
  refine R_iload_n (Dat dd_L_law 56 rfl) rfl ?_
  refine R_iconst (Dat dd_L_law 57 rfl) ?_
  refine R_iadd (Dat dd_L_law 58 rfl) ?_
  obtain ⟨g9, T⟩ := T
  obtain ⟨g10, T⟩ := T
  obtain ⟨g11, T⟩ := T
  obtain ⟨g12, T⟩ := T
  refine R_iaload (Dat dd_L_law 59 rfl) g9 g10 g11 g12 ?_
  refine R_aload_n (Dat dd_L_law 60 rfl) rfl rfl ?_
  refine R_iload_n (Dat dd_L_law 61 rfl) rfl ?_
  refine R_iconst (Dat dd_L_law 62 rfl) ?_
  refine R_iadd (Dat dd_L_law 63 rfl) ?_
  obtain ⟨g13, T⟩ := T
  obtain ⟨g14, T⟩ := T
  obtain ⟨g15, T⟩ := T
  obtain ⟨g16, T⟩ := T
  refine R_iaload (Dat dd_L_law 64 rfl) g13 g14 g15 g16 ?_
  obtain ⟨g17, T⟩ := T
  exact R_call1 (Dat dd_L_law 65 rfl) rfl g17 rfl rfl rfl rfl rfl T
theorem t_L_law_275 {h : Hp} {P : Value → Hp → Prop} {a3 s0 : Int} {a0 : Nat} (T : (tg h a0 = 20 ∨ tg h a0 = 30) ∧ ((ln h a0 : Int) ≤ 2147483648) ∧ (0 ≤ (a3 + 1)) ∧ ((a3 + 1) < ln h a0) ∧ (tg h a0 = 20 ∨ tg h a0 = 30) ∧ ((ln h a0 : Int) ≤ 2147483648) ∧ (0 ≤ (a3 + 2)) ∧ ((a3 + 2) < ln h a0) ∧ (tg h 400 = 13) ∧ R 136 0 [.ref 400, .int (I (iv h a0 (a3 + 1))), .int (I (iv h a0 (a3 + 2)))] [] h (fun v h2 => R 208 289 [.ref a0, .ref 0, .ref 400, .int (I a3)] (v :: [.int (I s0)]) h2 P)) : R 208 275 [.ref a0, .ref 0, .ref 400, .int (I a3)] [.int (I s0)] h P := by
  refine R_aload_n (Dat dd_L_law 81 rfl) rfl rfl ?_
  refine R_aload_n (Dat dd_L_law 82 rfl) rfl rfl ?_
  refine R_iload_n (Dat dd_L_law 83 rfl) rfl ?_
  refine R_iconst (Dat dd_L_law 84 rfl) ?_
  refine R_iadd (Dat dd_L_law 85 rfl) ?_
  obtain ⟨g1, T⟩ := T
  obtain ⟨g2, T⟩ := T
  obtain ⟨g3, T⟩ := T
  obtain ⟨g4, T⟩ := T
  refine R_iaload (Dat dd_L_law 86 rfl) g1 g2 g3 g4 ?_
  refine R_aload_n (Dat dd_L_law 87 rfl) rfl rfl ?_
  refine R_iload_n (Dat dd_L_law 88 rfl) rfl ?_
  refine R_iconst (Dat dd_L_law 89 rfl) ?_
  refine R_iadd (Dat dd_L_law 90 rfl) ?_
  obtain ⟨g5, T⟩ := T
  obtain ⟨g6, T⟩ := T
  obtain ⟨g7, T⟩ := T
  obtain ⟨g8, T⟩ := T
  refine R_iaload (Dat dd_L_law 91 rfl) g5 g6 g7 g8 ?_
  obtain ⟨g9, T⟩ := T
  exact R_call1 (Dat dd_L_law 92 rfl) rfl g9 rfl rfl rfl rfl rfl T
theorem t_L_law_303 {h : Hp} {P : Value → Hp → Prop} {a3 s0 : Int} {a0 : Nat} (T : (tg h a0 = 20 ∨ tg h a0 = 30) ∧ ((ln h a0 : Int) ≤ 2147483648) ∧ (0 ≤ (a3 + 1)) ∧ ((a3 + 1) < ln h a0) ∧ (tg h 400 = 13) ∧ R 143 0 [.ref 400, .int (I (iv h a0 (a3 + 1)))] [] h (fun v h2 => R 208 312 [.ref a0, .ref 0, .ref 400, .int (I a3)] (v :: [.int (I s0)]) h2 P)) : R 208 303 [.ref a0, .ref 0, .ref 400, .int (I a3)] [.int (I s0)] h P := by
  refine R_aload_n (Dat dd_L_law 103 rfl) rfl rfl ?_
  refine R_aload_n (Dat dd_L_law 104 rfl) rfl rfl ?_
  refine R_iload_n (Dat dd_L_law 105 rfl) rfl ?_
  refine R_iconst (Dat dd_L_law 106 rfl) ?_
  refine R_iadd (Dat dd_L_law 107 rfl) ?_
  obtain ⟨g1, T⟩ := T
  obtain ⟨g2, T⟩ := T
  obtain ⟨g3, T⟩ := T
  obtain ⟨g4, T⟩ := T
  refine R_iaload (Dat dd_L_law 108 rfl) g1 g2 g3 g4 ?_
  obtain ⟨g5, T⟩ := T
  exact R_call1 (Dat dd_L_law 109 rfl) rfl g5 rfl rfl rfl rfl rfl T
theorem t_L_law_321 {h : Hp} {P : Value → Hp → Prop} {a3 s0 : Int} {a0 : Nat} (T : (tg h 400 = 13) ∧ R 144 0 [.ref 400] [] h (fun v h2 => R 208 325 [.ref a0, .ref 0, .ref 400, .int (I a3)] (v :: [.int (I s0)]) h2 P)) : R 208 321 [.ref a0, .ref 0, .ref 400, .int (I a3)] [.int (I s0)] h P := by
  refine R_aload_n (Dat dd_L_law 115 rfl) rfl rfl ?_
  obtain ⟨g1, T⟩ := T
  exact R_call1 (Dat dd_L_law 116 rfl) rfl g1 rfl rfl rfl rfl rfl T
theorem t_L_law_339 {h : Hp} {P : Value → Hp → Prop} {a3 s0 : Int} {a0 : Nat} (T : (tg h a0 = 20 ∨ tg h a0 = 30) ∧ ((ln h a0 : Int) ≤ 2147483648) ∧ (0 ≤ (a3 + 1)) ∧ ((a3 + 1) < ln h a0) ∧ (tg h 400 = 13) ∧ R 145 0 [.ref 400, .int (I (iv h a0 (a3 + 1))), .retAddr 0] [] h (fun v h2 => R 208 348 [.ref a0, .ref 0, .ref 400, .int (I a3)] (v :: [.int (I s0)]) h2 P)) : R 208 339 [.ref a0, .ref 0, .ref 400, .int (I a3)] [.int (I s0)] h P := by
  refine R_aload_n (Dat dd_L_law 127 rfl) rfl rfl ?_
  refine R_aload_n (Dat dd_L_law 128 rfl) rfl rfl ?_
  refine R_iload_n (Dat dd_L_law 129 rfl) rfl ?_
  refine R_iconst (Dat dd_L_law 130 rfl) ?_
  refine R_iadd (Dat dd_L_law 131 rfl) ?_
  obtain ⟨g1, T⟩ := T
  obtain ⟨g2, T⟩ := T
  obtain ⟨g3, T⟩ := T
  obtain ⟨g4, T⟩ := T
  refine R_iaload (Dat dd_L_law 132 rfl) g1 g2 g3 g4 ?_
  obtain ⟨g5, T⟩ := T
  exact R_call1 (Dat dd_L_law 133 rfl) rfl g5 rfl rfl rfl rfl rfl T
theorem t_L_law_367 {h : Hp} {P : Value → Hp → Prop} {a3 s0 : Int} {a0 : Nat} (T : (tg h a0 = 20 ∨ tg h a0 = 30) ∧ ((ln h a0 : Int) ≤ 2147483648) ∧ (0 ≤ (a3 + 1)) ∧ ((a3 + 1) < ln h a0) ∧ (tg h a0 = 20 ∨ tg h a0 = 30) ∧ ((ln h a0 : Int) ≤ 2147483648) ∧ (0 ≤ (a3 + 2)) ∧ ((a3 + 2) < ln h a0) ∧ (tg h 400 = 13) ∧ R 147 0 [.ref 400, .int (I (iv h a0 (a3 + 1))), .int (I (iv h a0 (a3 + 2)))] [] h (fun v h2 => R 208 381 [.ref a0, .ref 0, .ref 400, .int (I a3)] (v :: [.int (I s0)]) h2 P)) : R 208 367 [.ref a0, .ref 0, .ref 400, .int (I a3)] [.int (I s0)] h P := by
  refine R_aload_n (Dat dd_L_law 149 rfl) rfl rfl ?_
  refine R_aload_n (Dat dd_L_law 150 rfl) rfl rfl ?_
  refine R_iload_n (Dat dd_L_law 151 rfl) rfl ?_
  refine R_iconst (Dat dd_L_law 152 rfl) ?_
  refine R_iadd (Dat dd_L_law 153 rfl) ?_
  obtain ⟨g1, T⟩ := T
  obtain ⟨g2, T⟩ := T
  obtain ⟨g3, T⟩ := T
  obtain ⟨g4, T⟩ := T
  refine R_iaload (Dat dd_L_law 154 rfl) g1 g2 g3 g4 ?_
  refine R_aload_n (Dat dd_L_law 155 rfl) rfl rfl ?_
  refine R_iload_n (Dat dd_L_law 156 rfl) rfl ?_
  refine R_iconst (Dat dd_L_law 157 rfl) ?_
  refine R_iadd (Dat dd_L_law 158 rfl) ?_
  obtain ⟨g5, T⟩ := T
  obtain ⟨g6, T⟩ := T
  obtain ⟨g7, T⟩ := T
  obtain ⟨g8, T⟩ := T
  refine R_iaload (Dat dd_L_law 159 rfl) g5 g6 g7 g8 ?_
  obtain ⟨g9, T⟩ := T
  exact R_call1 (Dat dd_L_law 160 rfl) rfl g9 rfl rfl rfl rfl rfl T
theorem t_L_law_410 {h : Hp} {P : Value → Hp → Prop} {a3 s0 : Int} {a0 : Nat} (T : (tg h a0 = 20 ∨ tg h a0 = 30) ∧ ((ln h a0 : Int) ≤ 2147483648) ∧ (0 ≤ (a3 + 1)) ∧ ((a3 + 1) < ln h a0) ∧ (tg h a0 = 20 ∨ tg h a0 = 30) ∧ ((ln h a0 : Int) ≤ 2147483648) ∧ (0 ≤ (a3 + 2)) ∧ ((a3 + 2) < ln h a0) ∧ (tg h a0 = 20 ∨ tg h a0 = 30) ∧ ((ln h a0 : Int) ≤ 2147483648) ∧ (0 ≤ (a3 + 3)) ∧ ((a3 + 3) < ln h a0) ∧ (tg h a0 = 20 ∨ tg h a0 = 30) ∧ ((ln h a0 : Int) ≤ 2147483648) ∧ (0 ≤ (a3 + 4)) ∧ ((a3 + 4) < ln h a0) ∧ (tg h 400 = 13) ∧ R 148 0 [.ref 400, .int (I (iv h a0 (a3 + 1))), .int (I (iv h a0 (a3 + 2))), .int (I (iv h a0 (a3 + 3))), .int (I (iv h a0 (a3 + 4))), .retAddr 0, .retAddr 0, .retAddr 0] [] h (fun v h2 => R 208 434 [.ref a0, .ref 0, .ref 400, .int (I a3)] (v :: [.int (I s0)]) h2 P)) : R 208 410 [.ref a0, .ref 0, .ref 400, .int (I a3)] [.int (I s0)] h P := by
  refine R_aload_n (Dat dd_L_law 186 rfl) rfl rfl ?_
  refine R_aload_n (Dat dd_L_law 187 rfl) rfl rfl ?_
  refine R_iload_n (Dat dd_L_law 188 rfl) rfl ?_
  refine R_iconst (Dat dd_L_law 189 rfl) ?_
  refine R_iadd (Dat dd_L_law 190 rfl) ?_
  obtain ⟨g1, T⟩ := T
  obtain ⟨g2, T⟩ := T
  obtain ⟨g3, T⟩ := T
  obtain ⟨g4, T⟩ := T
  refine R_iaload (Dat dd_L_law 191 rfl) g1 g2 g3 g4 ?_
  refine R_aload_n (Dat dd_L_law 192 rfl) rfl rfl ?_
  refine R_iload_n (Dat dd_L_law 193 rfl) rfl ?_
  refine R_iconst (Dat dd_L_law 194 rfl) ?_
  refine R_iadd (Dat dd_L_law 195 rfl) ?_
  obtain ⟨g5, T⟩ := T
  obtain ⟨g6, T⟩ := T
  obtain ⟨g7, T⟩ := T
  obtain ⟨g8, T⟩ := T
  refine R_iaload (Dat dd_L_law 196 rfl) g5 g6 g7 g8 ?_
  refine R_aload_n (Dat dd_L_law 197 rfl) rfl rfl ?_
  refine R_iload_n (Dat dd_L_law 198 rfl) rfl ?_
  refine R_iconst (Dat dd_L_law 199 rfl) ?_
  refine R_iadd (Dat dd_L_law 200 rfl) ?_
  obtain ⟨g9, T⟩ := T
  obtain ⟨g10, T⟩ := T
  obtain ⟨g11, T⟩ := T
  obtain ⟨g12, T⟩ := T
  refine R_iaload (Dat dd_L_law 201 rfl) g9 g10 g11 g12 ?_
  refine R_aload_n (Dat dd_L_law 202 rfl) rfl rfl ?_
  refine R_iload_n (Dat dd_L_law 203 rfl) rfl ?_
  refine R_iconst (Dat dd_L_law 204 rfl) ?_
  refine R_iadd (Dat dd_L_law 205 rfl) ?_
  obtain ⟨g13, T⟩ := T
  obtain ⟨g14, T⟩ := T
  obtain ⟨g15, T⟩ := T
  obtain ⟨g16, T⟩ := T
  refine R_iaload (Dat dd_L_law 206 rfl) g13 g14 g15 g16 ?_
  obtain ⟨g17, T⟩ := T
  exact R_call1 (Dat dd_L_law 207 rfl) rfl g17 rfl rfl rfl rfl rfl T
theorem t_L_law_458 {h : Hp} {P : Value → Hp → Prop} {a3 s0 : Int} {a0 : Nat} (T : (tg h a0 = 20 ∨ tg h a0 = 30) ∧ ((ln h a0 : Int) ≤ 2147483648) ∧ (0 ≤ (a3 + 1)) ∧ ((a3 + 1) < ln h a0) ∧ (tg h a0 = 20 ∨ tg h a0 = 30) ∧ ((ln h a0 : Int) ≤ 2147483648) ∧ (0 ≤ (a3 + 2)) ∧ ((a3 + 2) < ln h a0) ∧ (tg h a0 = 20 ∨ tg h a0 = 30) ∧ ((ln h a0 : Int) ≤ 2147483648) ∧ (0 ≤ (a3 + 3)) ∧ ((a3 + 3) < ln h a0) ∧ (tg h 400 = 13) ∧ R 151 0 [.ref 400, .int (I (iv h a0 (a3 + 1))), .int (I (iv h a0 (a3 + 2))), .int (I (iv h a0 (a3 + 3)))] [] h (fun v h2 => R 208 477 [.ref a0, .ref 0, .ref 400, .int (I a3)] (v :: [.int (I s0)]) h2 P)) : R 208 458 [.ref a0, .ref 0, .ref 400, .int (I a3)] [.int (I s0)] h P := by
  refine R_aload_n (Dat dd_L_law 228 rfl) rfl rfl ?_
  refine R_aload_n (Dat dd_L_law 229 rfl) rfl rfl ?_
  refine R_iload_n (Dat dd_L_law 230 rfl) rfl ?_
  refine R_iconst (Dat dd_L_law 231 rfl) ?_
  refine R_iadd (Dat dd_L_law 232 rfl) ?_
  obtain ⟨g1, T⟩ := T
  obtain ⟨g2, T⟩ := T
  obtain ⟨g3, T⟩ := T
  obtain ⟨g4, T⟩ := T
  refine R_iaload (Dat dd_L_law 233 rfl) g1 g2 g3 g4 ?_
  refine R_aload_n (Dat dd_L_law 234 rfl) rfl rfl ?_
  refine R_iload_n (Dat dd_L_law 235 rfl) rfl ?_
  refine R_iconst (Dat dd_L_law 236 rfl) ?_
  refine R_iadd (Dat dd_L_law 237 rfl) ?_
  obtain ⟨g5, T⟩ := T
  obtain ⟨g6, T⟩ := T
  obtain ⟨g7, T⟩ := T
  obtain ⟨g8, T⟩ := T
  refine R_iaload (Dat dd_L_law 238 rfl) g5 g6 g7 g8 ?_
  refine R_aload_n (Dat dd_L_law 239 rfl) rfl rfl ?_
  refine R_iload_n (Dat dd_L_law 240 rfl) rfl ?_
  refine R_iconst (Dat dd_L_law 241 rfl) ?_
  refine R_iadd (Dat dd_L_law 242 rfl) ?_
  obtain ⟨g9, T⟩ := T
  obtain ⟨g10, T⟩ := T
  obtain ⟨g11, T⟩ := T
  obtain ⟨g12, T⟩ := T
  refine R_iaload (Dat dd_L_law 243 rfl) g9 g10 g11 g12 ?_
  obtain ⟨g13, T⟩ := T
  exact R_call1 (Dat dd_L_law 244 rfl) rfl g13 rfl rfl rfl rfl rfl T
theorem t_L_law_491 {h : Hp} {P : Value → Hp → Prop} {a3 s0 : Int} {a0 : Nat} (T : (tg h a0 = 20 ∨ tg h a0 = 30) ∧ ((ln h a0 : Int) ≤ 2147483648) ∧ (0 ≤ (a3 + 1)) ∧ ((a3 + 1) < ln h a0) ∧ (tg h 400 = 13) ∧ R 153 0 [.ref 400, .int (I (iv h a0 (a3 + 1))), .retAddr 0] [] h (fun v h2 => R 208 500 [.ref a0, .ref 0, .ref 400, .int (I a3)] (v :: [.int (I s0)]) h2 P)) : R 208 491 [.ref a0, .ref 0, .ref 400, .int (I a3)] [.int (I s0)] h P := by
  refine R_aload_n (Dat dd_L_law 255 rfl) rfl rfl ?_
  refine R_aload_n (Dat dd_L_law 256 rfl) rfl rfl ?_
  refine R_iload_n (Dat dd_L_law 257 rfl) rfl ?_
  refine R_iconst (Dat dd_L_law 258 rfl) ?_
  refine R_iadd (Dat dd_L_law 259 rfl) ?_
  obtain ⟨g1, T⟩ := T
  obtain ⟨g2, T⟩ := T
  obtain ⟨g3, T⟩ := T
  obtain ⟨g4, T⟩ := T
  refine R_iaload (Dat dd_L_law 260 rfl) g1 g2 g3 g4 ?_
  obtain ⟨g5, T⟩ := T
  exact R_call1 (Dat dd_L_law 261 rfl) rfl g5 rfl rfl rfl rfl rfl T
theorem t_L_law_529 {h : Hp} {P : Value → Hp → Prop} {a3 s0 : Int} {a0 : Nat} (T : (tg h a0 = 20 ∨ tg h a0 = 30) ∧ ((ln h a0 : Int) ≤ 2147483648) ∧ (0 ≤ (a3 + 1)) ∧ ((a3 + 1) < ln h a0) ∧ (tg h a0 = 20 ∨ tg h a0 = 30) ∧ ((ln h a0 : Int) ≤ 2147483648) ∧ (0 ≤ (a3 + 2)) ∧ ((a3 + 2) < ln h a0) ∧ (tg h a0 = 20 ∨ tg h a0 = 30) ∧ ((ln h a0 : Int) ≤ 2147483648) ∧ (0 ≤ (a3 + 3)) ∧ ((a3 + 3) < ln h a0) ∧ (tg h a0 = 20 ∨ tg h a0 = 30) ∧ ((ln h a0 : Int) ≤ 2147483648) ∧ (0 ≤ (a3 + 4)) ∧ ((a3 + 4) < ln h a0) ∧ (tg h 400 = 13) ∧ R 154 0 [.ref 400, .int (I (iv h a0 (a3 + 1))), .int (I (iv h a0 (a3 + 2))), .int (I (iv h a0 (a3 + 3))), .int (I (iv h a0 (a3 + 4)))] [] h (fun v h2 => R 208 553 [.ref a0, .ref 0, .ref 400, .int (I a3)] (v :: [.int (I s0)]) h2 P)) : R 208 529 [.ref a0, .ref 0, .ref 400, .int (I a3)] [.int (I s0)] h P := by
  refine R_aload_n (Dat dd_L_law 287 rfl) rfl rfl ?_
  refine R_aload_n (Dat dd_L_law 288 rfl) rfl rfl ?_
  refine R_iload_n (Dat dd_L_law 289 rfl) rfl ?_
  refine R_iconst (Dat dd_L_law 290 rfl) ?_
  refine R_iadd (Dat dd_L_law 291 rfl) ?_
  obtain ⟨g1, T⟩ := T
  obtain ⟨g2, T⟩ := T
  obtain ⟨g3, T⟩ := T
  obtain ⟨g4, T⟩ := T
  refine R_iaload (Dat dd_L_law 292 rfl) g1 g2 g3 g4 ?_
  refine R_aload_n (Dat dd_L_law 293 rfl) rfl rfl ?_
  refine R_iload_n (Dat dd_L_law 294 rfl) rfl ?_
  refine R_iconst (Dat dd_L_law 295 rfl) ?_
  refine R_iadd (Dat dd_L_law 296 rfl) ?_
  obtain ⟨g5, T⟩ := T
  obtain ⟨g6, T⟩ := T
  obtain ⟨g7, T⟩ := T
  obtain ⟨g8, T⟩ := T
  refine R_iaload (Dat dd_L_law 297 rfl) g5 g6 g7 g8 ?_
  refine R_aload_n (Dat dd_L_law 298 rfl) rfl rfl ?_
  refine R_iload_n (Dat dd_L_law 299 rfl) rfl ?_
  refine R_iconst (Dat dd_L_law 300 rfl) ?_
  refine R_iadd (Dat dd_L_law 301 rfl) ?_
  obtain ⟨g9, T⟩ := T
  obtain ⟨g10, T⟩ := T
  obtain ⟨g11, T⟩ := T
  obtain ⟨g12, T⟩ := T
  refine R_iaload (Dat dd_L_law 302 rfl) g9 g10 g11 g12 ?_
  refine R_aload_n (Dat dd_L_law 303 rfl) rfl rfl ?_
  refine R_iload_n (Dat dd_L_law 304 rfl) rfl ?_
  refine R_iconst (Dat dd_L_law 305 rfl) ?_
  refine R_iadd (Dat dd_L_law 306 rfl) ?_
  obtain ⟨g13, T⟩ := T
  obtain ⟨g14, T⟩ := T
  obtain ⟨g15, T⟩ := T
  obtain ⟨g16, T⟩ := T
  refine R_iaload (Dat dd_L_law 307 rfl) g13 g14 g15 g16 ?_
  obtain ⟨g17, T⟩ := T
  exact R_call1 (Dat dd_L_law 308 rfl) rfl g17 rfl rfl rfl rfl rfl T
theorem t_L_law_572 {h : Hp} {P : Value → Hp → Prop} {a3 s0 : Int} {a0 : Nat} (T : (tg h a0 = 20 ∨ tg h a0 = 30) ∧ ((ln h a0 : Int) ≤ 2147483648) ∧ (0 ≤ (a3 + 1)) ∧ ((a3 + 1) < ln h a0) ∧ (tg h a0 = 20 ∨ tg h a0 = 30) ∧ ((ln h a0 : Int) ≤ 2147483648) ∧ (0 ≤ (a3 + 2)) ∧ ((a3 + 2) < ln h a0) ∧ (tg h 400 = 13) ∧ R 158 0 [.ref 400, .int (I (iv h a0 (a3 + 1))), .int (I (iv h a0 (a3 + 2))), .retAddr 0] [] h (fun v h2 => R 208 586 [.ref a0, .ref 0, .ref 400, .int (I a3)] (v :: [.int (I s0)]) h2 P)) : R 208 572 [.ref a0, .ref 0, .ref 400, .int (I a3)] [.int (I s0)] h P := by
  refine R_aload_n (Dat dd_L_law 324 rfl) rfl rfl ?_
  refine R_aload_n (Dat dd_L_law 325 rfl) rfl rfl ?_
  refine R_iload_n (Dat dd_L_law 326 rfl) rfl ?_
  refine R_iconst (Dat dd_L_law 327 rfl) ?_
  refine R_iadd (Dat dd_L_law 328 rfl) ?_
  obtain ⟨g1, T⟩ := T
  obtain ⟨g2, T⟩ := T
  obtain ⟨g3, T⟩ := T
  obtain ⟨g4, T⟩ := T
  refine R_iaload (Dat dd_L_law 329 rfl) g1 g2 g3 g4 ?_
  refine R_aload_n (Dat dd_L_law 330 rfl) rfl rfl ?_
  refine R_iload_n (Dat dd_L_law 331 rfl) rfl ?_
  refine R_iconst (Dat dd_L_law 332 rfl) ?_
  refine R_iadd (Dat dd_L_law 333 rfl) ?_
  obtain ⟨g5, T⟩ := T
  obtain ⟨g6, T⟩ := T
  obtain ⟨g7, T⟩ := T
  obtain ⟨g8, T⟩ := T
  refine R_iaload (Dat dd_L_law 334 rfl) g5 g6 g7 g8 ?_
  obtain ⟨g9, T⟩ := T
  exact R_call1 (Dat dd_L_law 335 rfl) rfl g9 rfl rfl rfl rfl rfl T
theorem t_L_law_615 {h : Hp} {P : Value → Hp → Prop} {a3 s0 : Int} {a0 : Nat} (T : (tg h a0 = 20 ∨ tg h a0 = 30) ∧ ((ln h a0 : Int) ≤ 2147483648) ∧ (0 ≤ (a3 + 1)) ∧ ((a3 + 1) < ln h a0) ∧ (tg h a0 = 20 ∨ tg h a0 = 30) ∧ ((ln h a0 : Int) ≤ 2147483648) ∧ (0 ≤ (a3 + 2)) ∧ ((a3 + 2) < ln h a0) ∧ (tg h a0 = 20 ∨ tg h a0 = 30) ∧ ((ln h a0 : Int) ≤ 2147483648) ∧ (0 ≤ (a3 + 3)) ∧ ((a3 + 3) < ln h a0) ∧ (tg h a0 = 20 ∨ tg h a0 = 30) ∧ ((ln h a0 : Int) ≤ 2147483648) ∧ (0 ≤ (a3 + 4)) ∧ ((a3 + 4) < ln h a0) ∧ (tg h 400 = 13) ∧ R 162 0 [.ref 400, .int (I (iv h a0 (a3 + 1))), .int (I (iv h a0 (a3 + 2))), .int (I (iv h a0 (a3 + 3))), .int (I (iv h a0 (a3 + 4))), .retAddr 0, .retAddr 0, .retAddr 0] [] h (fun v h2 => R 208 639 [.ref a0, .ref 0, .ref 400, .int (I a3)] (v :: [.int (I s0)]) h2 P)) : R 208 615 [.ref a0, .ref 0, .ref 400, .int (I a3)] [.int (I s0)] h P := by
  refine R_aload_n (Dat dd_L_law 361 rfl) rfl rfl ?_
  refine R_aload_n (Dat dd_L_law 362 rfl) rfl rfl ?_
  refine R_iload_n (Dat dd_L_law 363 rfl) rfl ?_
  refine R_iconst (Dat dd_L_law 364 rfl) ?_
  refine R_iadd (Dat dd_L_law 365 rfl) ?_
  obtain ⟨g1, T⟩ := T
  obtain ⟨g2, T⟩ := T
  obtain ⟨g3, T⟩ := T
  obtain ⟨g4, T⟩ := T
  refine R_iaload (Dat dd_L_law 366 rfl) g1 g2 g3 g4 ?_
  refine R_aload_n (Dat dd_L_law 367 rfl) rfl rfl ?_
  refine R_iload_n (Dat dd_L_law 368 rfl) rfl ?_
  refine R_iconst (Dat dd_L_law 369 rfl) ?_
  refine R_iadd (Dat dd_L_law 370 rfl) ?_
  obtain ⟨g5, T⟩ := T
  obtain ⟨g6, T⟩ := T
  obtain ⟨g7, T⟩ := T
  obtain ⟨g8, T⟩ := T
  refine R_iaload (Dat dd_L_law 371 rfl) g5 g6 g7 g8 ?_
  refine R_aload_n (Dat dd_L_law 372 rfl) rfl rfl ?_
  refine R_iload_n (Dat dd_L_law 373 rfl) rfl ?_
  refine R_iconst (Dat dd_L_law 374 rfl) ?_
  refine R_iadd (Dat dd_L_law 375 rfl) ?_
  obtain ⟨g9, T⟩ := T
  obtain ⟨g10, T⟩ := T
  obtain ⟨g11, T⟩ := T
  obtain ⟨g12, T⟩ := T
  refine R_iaload (Dat dd_L_law 376 rfl) g9 g10 g11 g12 ?_
  refine R_aload_n (Dat dd_L_law 377 rfl) rfl rfl ?_
  refine R_iload_n (Dat dd_L_law 378 rfl) rfl ?_
  refine R_iconst (Dat dd_L_law 379 rfl) ?_
  refine R_iadd (Dat dd_L_law 380 rfl) ?_
  obtain ⟨g13, T⟩ := T
  obtain ⟨g14, T⟩ := T
  obtain ⟨g15, T⟩ := T
  obtain ⟨g16, T⟩ := T
  refine R_iaload (Dat dd_L_law 381 rfl) g13 g14 g15 g16 ?_
  obtain ⟨g17, T⟩ := T
  exact R_call1 (Dat dd_L_law 382 rfl) rfl g17 rfl rfl rfl rfl rfl T
theorem t_L_law_648 {h : Hp} {P : Value → Hp → Prop} {a3 s0 : Int} {a0 : Nat} (T : (tg h 400 = 13) ∧ R 164 0 [.ref 400] [] h (fun v h2 => R 208 652 [.ref a0, .ref 0, .ref 400, .int (I a3)] (v :: [.int (I s0)]) h2 P)) : R 208 648 [.ref a0, .ref 0, .ref 400, .int (I a3)] [.int (I s0)] h P := by
  refine R_aload_n (Dat dd_L_law 388 rfl) rfl rfl ?_
  obtain ⟨g1, T⟩ := T
  exact R_call1 (Dat dd_L_law 389 rfl) rfl g1 rfl rfl rfl rfl rfl T
theorem t_L_law_661 {h : Hp} {P : Value → Hp → Prop} {a3 s0 : Int} {a0 : Nat} (T : (tg h 400 = 13) ∧ R 166 0 [.ref 400] [] h (fun v h2 => R 208 665 [.ref a0, .ref 0, .ref 400, .int (I a3)] (v :: [.int (I s0)]) h2 P)) : R 208 661 [.ref a0, .ref 0, .ref 400, .int (I a3)] [.int (I s0)] h P := by
  refine R_aload_n (Dat dd_L_law 395 rfl) rfl rfl ?_
  obtain ⟨g1, T⟩ := T
  exact R_call1 (Dat dd_L_law 396 rfl) rfl g1 rfl rfl rfl rfl rfl T
theorem t_L_law_684 {h : Hp} {P : Value → Hp → Prop} {a3 s0 : Int} {a0 : Nat} (T : (tg h a0 = 20 ∨ tg h a0 = 30) ∧ ((ln h a0 : Int) ≤ 2147483648) ∧ (0 ≤ (a3 + 1)) ∧ ((a3 + 1) < ln h a0) ∧ (tg h a0 = 20 ∨ tg h a0 = 30) ∧ ((ln h a0 : Int) ≤ 2147483648) ∧ (0 ≤ (a3 + 2)) ∧ ((a3 + 2) < ln h a0) ∧ (tg h 400 = 13) ∧ R 168 0 [.ref 400, .int (I (iv h a0 (a3 + 1))), .int (I (iv h a0 (a3 + 2)))] [] h (fun v h2 => R 208 698 [.ref a0, .ref 0, .ref 400, .int (I a3)] (v :: [.int (I s0)]) h2 P)) : R 208 684 [.ref a0, .ref 0, .ref 400, .int (I a3)] [.int (I s0)] h P := by
  refine R_aload_n (Dat dd_L_law 412 rfl) rfl rfl ?_
  refine R_aload_n (Dat dd_L_law 413 rfl) rfl rfl ?_
  refine R_iload_n (Dat dd_L_law 414 rfl) rfl ?_
  refine R_iconst (Dat dd_L_law 415 rfl) ?_
  refine R_iadd (Dat dd_L_law 416 rfl) ?_
  obtain ⟨g1, T⟩ := T
  obtain ⟨g2, T⟩ := T
  obtain ⟨g3, T⟩ := T
  obtain ⟨g4, T⟩ := T
  refine R_iaload (Dat dd_L_law 417 rfl) g1 g2 g3 g4 ?_
  refine R_aload_n (Dat dd_L_law 418 rfl) rfl rfl ?_
  refine R_iload_n (Dat dd_L_law 419 rfl) rfl ?_
  refine R_iconst (Dat dd_L_law 420 rfl) ?_
  refine R_iadd (Dat dd_L_law 421 rfl) ?_
  obtain ⟨g5, T⟩ := T
  obtain ⟨g6, T⟩ := T
  obtain ⟨g7, T⟩ := T
  obtain ⟨g8, T⟩ := T
  refine R_iaload (Dat dd_L_law 422 rfl) g5 g6 g7 g8 ?_
  obtain ⟨g9, T⟩ := T
  exact R_call1 (Dat dd_L_law 423 rfl) rfl g9 rfl rfl rfl rfl rfl T
theorem t_L_law_722 {h : Hp} {P : Value → Hp → Prop} {a3 s0 : Int} {a0 : Nat} (T : (tg h a0 = 20 ∨ tg h a0 = 30) ∧ ((ln h a0 : Int) ≤ 2147483648) ∧ (0 ≤ (a3 + 1)) ∧ ((a3 + 1) < ln h a0) ∧ (tg h a0 = 20 ∨ tg h a0 = 30) ∧ ((ln h a0 : Int) ≤ 2147483648) ∧ (0 ≤ (a3 + 2)) ∧ ((a3 + 2) < ln h a0) ∧ (tg h a0 = 20 ∨ tg h a0 = 30) ∧ ((ln h a0 : Int) ≤ 2147483648) ∧ (0 ≤ (a3 + 3)) ∧ ((a3 + 3) < ln h a0) ∧ (tg h 400 = 13) ∧ R 170 0 [.ref 400, .int (I (iv h a0 (a3 + 1))), .int (I (iv h a0 (a3 + 2))), .int (I (iv h a0 (a3 + 3))), .retAddr 0, .retAddr 0] [] h (fun v h2 => R 208 741 [.ref a0, .ref 0, .ref 400, .int (I a3)] (v :: [.int (I s0)]) h2 P)) : R 208 722 [.ref a0, .ref 0, .ref 400, .int (I a3)] [.int (I s0)] h P := by
  refine R_aload_n (Dat dd_L_law 444 rfl) rfl rfl ?_
  refine R_aload_n (Dat dd_L_law 445 rfl) rfl rfl ?_
  refine R_iload_n (Dat dd_L_law 446 rfl) rfl ?_
  refine R_iconst (Dat dd_L_law 447 rfl) ?_
  refine R_iadd (Dat dd_L_law 448 rfl) ?_
  obtain ⟨g1, T⟩ := T
  obtain ⟨g2, T⟩ := T
  obtain ⟨g3, T⟩ := T
  obtain ⟨g4, T⟩ := T
  refine R_iaload (Dat dd_L_law 449 rfl) g1 g2 g3 g4 ?_
  refine R_aload_n (Dat dd_L_law 450 rfl) rfl rfl ?_
  refine R_iload_n (Dat dd_L_law 451 rfl) rfl ?_
  refine R_iconst (Dat dd_L_law 452 rfl) ?_
  refine R_iadd (Dat dd_L_law 453 rfl) ?_
  obtain ⟨g5, T⟩ := T
  obtain ⟨g6, T⟩ := T
  obtain ⟨g7, T⟩ := T
  obtain ⟨g8, T⟩ := T
  refine R_iaload (Dat dd_L_law 454 rfl) g5 g6 g7 g8 ?_
  refine R_aload_n (Dat dd_L_law 455 rfl) rfl rfl ?_
  refine R_iload_n (Dat dd_L_law 456 rfl) rfl ?_
  refine R_iconst (Dat dd_L_law 457 rfl) ?_
  refine R_iadd (Dat dd_L_law 458 rfl) ?_
  obtain ⟨g9, T⟩ := T
  obtain ⟨g10, T⟩ := T
  obtain ⟨g11, T⟩ := T
  obtain ⟨g12, T⟩ := T
  refine R_iaload (Dat dd_L_law 459 rfl) g9 g10 g11 g12 ?_
  obtain ⟨g13, T⟩ := T
  exact R_call1 (Dat dd_L_law 460 rfl) rfl g13 rfl rfl rfl rfl rfl T
theorem t_L_law_765 {h : Hp} {P : Value → Hp → Prop} {a3 s0 : Int} {a0 : Nat} (T : (tg h a0 = 20 ∨ tg h a0 = 30) ∧ ((ln h a0 : Int) ≤ 2147483648) ∧ (0 ≤ (a3 + 1)) ∧ ((a3 + 1) < ln h a0) ∧ (tg h a0 = 20 ∨ tg h a0 = 30) ∧ ((ln h a0 : Int) ≤ 2147483648) ∧ (0 ≤ (a3 + 2)) ∧ ((a3 + 2) < ln h a0) ∧ (tg h a0 = 20 ∨ tg h a0 = 30) ∧ ((ln h a0 : Int) ≤ 2147483648) ∧ (0 ≤ (a3 + 3)) ∧ ((a3 + 3) < ln h a0) ∧ (tg h 400 = 13) ∧ R 172 0 [.ref 400, .int (I (iv h a0 (a3 + 1))), .int (I (iv h a0 (a3 + 2))), .int (I (iv h a0 (a3 + 3))), .retAddr 0] [] h (fun v h2 => R 208 784 [.ref a0, .ref 0, .ref 400, .int (I a3)] (v :: [.int (I s0)]) h2 P)) : R 208 765 [.ref a0, .ref 0, .ref 400, .int (I a3)] [.int (I s0)] h P := by
  refine R_aload_n (Dat dd_L_law 481 rfl) rfl rfl ?_
  refine R_aload_n (Dat dd_L_law 482 rfl) rfl rfl ?_
  refine R_iload_n (Dat dd_L_law 483 rfl) rfl ?_
  refine R_iconst (Dat dd_L_law 484 rfl) ?_
  refine R_iadd (Dat dd_L_law 485 rfl) ?_
  obtain ⟨g1, T⟩ := T
  obtain ⟨g2, T⟩ := T
  obtain ⟨g3, T⟩ := T
  obtain ⟨g4, T⟩ := T
  refine R_iaload (Dat dd_L_law 486 rfl) g1 g2 g3 g4 ?_
  refine R_aload_n (Dat dd_L_law 487 rfl) rfl rfl ?_
  refine R_iload_n (Dat dd_L_law 488 rfl) rfl ?_
  refine R_iconst (Dat dd_L_law 489 rfl) ?_
  refine R_iadd (Dat dd_L_law 490 rfl) ?_
  obtain ⟨g5, T⟩ := T
  obtain ⟨g6, T⟩ := T
  obtain ⟨g7, T⟩ := T
  obtain ⟨g8, T⟩ := T
  refine R_iaload (Dat dd_L_law 491 rfl) g5 g6 g7 g8 ?_
  refine R_aload_n (Dat dd_L_law 492 rfl) rfl rfl ?_
  refine R_iload_n (Dat dd_L_law 493 rfl) rfl ?_
  refine R_iconst (Dat dd_L_law 494 rfl) ?_
  refine R_iadd (Dat dd_L_law 495 rfl) ?_
  obtain ⟨g9, T⟩ := T
  obtain ⟨g10, T⟩ := T
  obtain ⟨g11, T⟩ := T
  obtain ⟨g12, T⟩ := T
  refine R_iaload (Dat dd_L_law 496 rfl) g9 g10 g11 g12 ?_
  obtain ⟨g13, T⟩ := T
  exact R_call1 (Dat dd_L_law 497 rfl) rfl g13 rfl rfl rfl rfl rfl T
theorem t_L_law_808 {h : Hp} {P : Value → Hp → Prop} {a3 s0 : Int} {a0 : Nat} (T : (tg h a0 = 20 ∨ tg h a0 = 30) ∧ ((ln h a0 : Int) ≤ 2147483648) ∧ (0 ≤ (a3 + 1)) ∧ ((a3 + 1) < ln h a0) ∧ (tg h a0 = 20 ∨ tg h a0 = 30) ∧ ((ln h a0 : Int) ≤ 2147483648) ∧ (0 ≤ (a3 + 2)) ∧ ((a3 + 2) < ln h a0) ∧ (tg h a0 = 20 ∨ tg h a0 = 30) ∧ ((ln h a0 : Int) ≤ 2147483648) ∧ (0 ≤ (a3 + 3)) ∧ ((a3 + 3) < ln h a0) ∧ (tg h 400 = 13) ∧ R 176 0 [.ref 400, .int (I (iv h a0 (a3 + 1))), .int (I (iv h a0 (a3 + 2))), .int (I (iv h a0 (a3 + 3))), .retAddr 0, .retAddr 0, .retAddr 0, .retAddr 0, .retAddr 0, .retAddr 0, .retAddr 0] [] h (fun v h2 => R 208 827 [.ref a0, .ref 0, .ref 400, .int (I a3)] (v :: [.int (I s0)]) h2 P)) : R 208 808 [.ref a0, .ref 0, .ref 400, .int (I a3)] [.int (I s0)] h P := by
  refine R_aload_n (Dat dd_L_law 518 rfl) rfl rfl ?_
  refine R_aload_n (Dat dd_L_law 519 rfl) rfl rfl ?_
  refine R_iload_n (Dat dd_L_law 520 rfl) rfl ?_
  refine R_iconst (Dat dd_L_law 521 rfl) ?_
  refine R_iadd (Dat dd_L_law 522 rfl) ?_
  obtain ⟨g1, T⟩ := T
  obtain ⟨g2, T⟩ := T
  obtain ⟨g3, T⟩ := T
  obtain ⟨g4, T⟩ := T
  refine R_iaload (Dat dd_L_law 523 rfl) g1 g2 g3 g4 ?_
  refine R_aload_n (Dat dd_L_law 524 rfl) rfl rfl ?_
  refine R_iload_n (Dat dd_L_law 525 rfl) rfl ?_
  refine R_iconst (Dat dd_L_law 526 rfl) ?_
  refine R_iadd (Dat dd_L_law 527 rfl) ?_
  obtain ⟨g5, T⟩ := T
  obtain ⟨g6, T⟩ := T
  obtain ⟨g7, T⟩ := T
  obtain ⟨g8, T⟩ := T
  refine R_iaload (Dat dd_L_law 528 rfl) g5 g6 g7 g8 ?_
  refine R_aload_n (Dat dd_L_law 529 rfl) rfl rfl ?_
  refine R_iload_n (Dat dd_L_law 530 rfl) rfl ?_
  refine R_iconst (Dat dd_L_law 531 rfl) ?_
  refine R_iadd (Dat dd_L_law 532 rfl) ?_
  obtain ⟨g9, T⟩ := T
  obtain ⟨g10, T⟩ := T
  obtain ⟨g11, T⟩ := T
  obtain ⟨g12, T⟩ := T
  refine R_iaload (Dat dd_L_law 533 rfl) g9 g10 g11 g12 ?_
  obtain ⟨g13, T⟩ := T
  exact R_call1 (Dat dd_L_law 534 rfl) rfl g13 rfl rfl rfl rfl rfl T
theorem t_L_law_846 {h : Hp} {P : Value → Hp → Prop} {a3 s0 : Int} {a0 : Nat} (T : (tg h a0 = 20 ∨ tg h a0 = 30) ∧ ((ln h a0 : Int) ≤ 2147483648) ∧ (0 ≤ (a3 + 1)) ∧ ((a3 + 1) < ln h a0) ∧ (tg h a0 = 20 ∨ tg h a0 = 30) ∧ ((ln h a0 : Int) ≤ 2147483648) ∧ (0 ≤ (a3 + 2)) ∧ ((a3 + 2) < ln h a0) ∧ (tg h 400 = 13) ∧ R 177 0 [.ref 400, .int (I (iv h a0 (a3 + 1))), .int (I (iv h a0 (a3 + 2)))] [] h (fun v h2 => R 208 860 [.ref a0, .ref 0, .ref 400, .int (I a3)] (v :: [.int (I s0)]) h2 P)) : R 208 846 [.ref a0, .ref 0, .ref 400, .int (I a3)] [.int (I s0)] h P := by
  refine R_aload_n (Dat dd_L_law 550 rfl) rfl rfl ?_
  refine R_aload_n (Dat dd_L_law 551 rfl) rfl rfl ?_
  refine R_iload_n (Dat dd_L_law 552 rfl) rfl ?_
  refine R_iconst (Dat dd_L_law 553 rfl) ?_
  refine R_iadd (Dat dd_L_law 554 rfl) ?_
  obtain ⟨g1, T⟩ := T
  obtain ⟨g2, T⟩ := T
  obtain ⟨g3, T⟩ := T
  obtain ⟨g4, T⟩ := T
  refine R_iaload (Dat dd_L_law 555 rfl) g1 g2 g3 g4 ?_
  refine R_aload_n (Dat dd_L_law 556 rfl) rfl rfl ?_
  refine R_iload_n (Dat dd_L_law 557 rfl) rfl ?_
  refine R_iconst (Dat dd_L_law 558 rfl) ?_
  refine R_iadd (Dat dd_L_law 559 rfl) ?_
  obtain ⟨g5, T⟩ := T
  obtain ⟨g6, T⟩ := T
  obtain ⟨g7, T⟩ := T
  obtain ⟨g8, T⟩ := T
  refine R_iaload (Dat dd_L_law 560 rfl) g5 g6 g7 g8 ?_
  obtain ⟨g9, T⟩ := T
  exact R_call1 (Dat dd_L_law 561 rfl) rfl g9 rfl rfl rfl rfl rfl T
theorem t_L_law_884 {h : Hp} {P : Value → Hp → Prop} {a3 s0 : Int} {a0 : Nat} (T : (tg h a0 = 20 ∨ tg h a0 = 30) ∧ ((ln h a0 : Int) ≤ 2147483648) ∧ (0 ≤ (a3 + 1)) ∧ ((a3 + 1) < ln h a0) ∧ (tg h a0 = 20 ∨ tg h a0 = 30) ∧ ((ln h a0 : Int) ≤ 2147483648) ∧ (0 ≤ (a3 + 2)) ∧ ((a3 + 2) < ln h a0) ∧ (tg h a0 = 20 ∨ tg h a0 = 30) ∧ ((ln h a0 : Int) ≤ 2147483648) ∧ (0 ≤ (a3 + 3)) ∧ ((a3 + 3) < ln h a0) ∧ (tg h 400 = 13) ∧ R 179 0 [.ref 400, .int (I (iv h a0 (a3 + 1))), .int (I (iv h a0 (a3 + 2))), .int (I (iv h a0 (a3 + 3))), .retAddr 0, .retAddr 0, .retAddr 0, .retAddr 0] [] h (fun v h2 => R 208 903 [.ref a0, .ref 0, .ref 400, .int (I a3)] (v :: [.int (I s0)]) h2 P)) : R 208 884 [.ref a0, .ref 0, .ref 400, .int (I a3)] [.int (I s0)] h P := by
  refine R_aload_n (Dat dd_L_law 582 rfl) rfl rfl ?_
  refine R_aload_n (Dat dd_L_law 583 rfl) rfl rfl ?_
  refine R_iload_n (Dat dd_L_law 584 rfl) rfl ?_
  refine R_iconst (Dat dd_L_law 585 rfl) ?_
  refine R_iadd (Dat dd_L_law 586 rfl) ?_
  obtain ⟨g1, T⟩ := T
  obtain ⟨g2, T⟩ := T
  obtain ⟨g3, T⟩ := T
  obtain ⟨g4, T⟩ := T
  refine R_iaload (Dat dd_L_law 587 rfl) g1 g2 g3 g4 ?_
  refine R_aload_n (Dat dd_L_law 588 rfl) rfl rfl ?_
  refine R_iload_n (Dat dd_L_law 589 rfl) rfl ?_
  refine R_iconst (Dat dd_L_law 590 rfl) ?_
  refine R_iadd (Dat dd_L_law 591 rfl) ?_
  obtain ⟨g5, T⟩ := T
  obtain ⟨g6, T⟩ := T
  obtain ⟨g7, T⟩ := T
  obtain ⟨g8, T⟩ := T
  refine R_iaload (Dat dd_L_law 592 rfl) g5 g6 g7 g8 ?_
  refine R_aload_n (Dat dd_L_law 593 rfl) rfl rfl ?_
  refine R_iload_n (Dat dd_L_law 594 rfl) rfl ?_
  refine R_iconst (Dat dd_L_law 595 rfl) ?_
  refine R_iadd (Dat dd_L_law 596 rfl) ?_
  obtain ⟨g9, T⟩ := T
  obtain ⟨g10, T⟩ := T
  obtain ⟨g11, T⟩ := T
  obtain ⟨g12, T⟩ := T
  refine R_iaload (Dat dd_L_law 597 rfl) g9 g10 g11 g12 ?_
  obtain ⟨g13, T⟩ := T
  exact R_call1 (Dat dd_L_law 598 rfl) rfl g13 rfl rfl rfl rfl rfl T
theorem t_L_law_927 {h : Hp} {P : Value → Hp → Prop} {a3 s0 : Int} {a0 : Nat} (T : (tg h a0 = 20 ∨ tg h a0 = 30) ∧ ((ln h a0 : Int) ≤ 2147483648) ∧ (0 ≤ (a3 + 1)) ∧ ((a3 + 1) < ln h a0) ∧ (tg h a0 = 20 ∨ tg h a0 = 30) ∧ ((ln h a0 : Int) ≤ 2147483648) ∧ (0 ≤ (a3 + 2)) ∧ ((a3 + 2) < ln h a0) ∧ (tg h a0 = 20 ∨ tg h a0 = 30) ∧ ((ln h a0 : Int) ≤ 2147483648) ∧ (0 ≤ (a3 + 3)) ∧ ((a3 + 3) < ln h a0) ∧ (tg h 400 = 13) ∧ R 183 0 [.ref 400, .int (I (iv h a0 (a3 + 1))), .int (I (iv h a0 (a3 + 2))), .int (I (iv h a0 (a3 + 3)))] [] h (fun v h2 => R 208 946 [.ref a0, .ref 0, .ref 400, .int (I a3)] (v :: [.int (I s0)]) h2 P)) : R 208 927 [.ref a0, .ref 0, .ref 400, .int (I a3)] [.int (I s0)] h P := by
  refine R_aload_n (Dat dd_L_law 619 rfl) rfl rfl ?_
  refine R_aload_n (Dat dd_L_law 620 rfl) rfl rfl ?_
  refine R_iload_n (Dat dd_L_law 621 rfl) rfl ?_
  refine R_iconst (Dat dd_L_law 622 rfl) ?_
  refine R_iadd (Dat dd_L_law 623 rfl) ?_
  obtain ⟨g1, T⟩ := T
  obtain ⟨g2, T⟩ := T
  obtain ⟨g3, T⟩ := T
  obtain ⟨g4, T⟩ := T
  refine R_iaload (Dat dd_L_law 624 rfl) g1 g2 g3 g4 ?_
  refine R_aload_n (Dat dd_L_law 625 rfl) rfl rfl ?_
  refine R_iload_n (Dat dd_L_law 626 rfl) rfl ?_
  refine R_iconst (Dat dd_L_law 627 rfl) ?_
  refine R_iadd (Dat dd_L_law 628 rfl) ?_
  obtain ⟨g5, T⟩ := T
  obtain ⟨g6, T⟩ := T
  obtain ⟨g7, T⟩ := T
  obtain ⟨g8, T⟩ := T
  refine R_iaload (Dat dd_L_law 629 rfl) g5 g6 g7 g8 ?_
  refine R_aload_n (Dat dd_L_law 630 rfl) rfl rfl ?_
  refine R_iload_n (Dat dd_L_law 631 rfl) rfl ?_
  refine R_iconst (Dat dd_L_law 632 rfl) ?_
  refine R_iadd (Dat dd_L_law 633 rfl) ?_
  obtain ⟨g9, T⟩ := T
  obtain ⟨g10, T⟩ := T
  obtain ⟨g11, T⟩ := T
  obtain ⟨g12, T⟩ := T
  refine R_iaload (Dat dd_L_law 634 rfl) g9 g10 g11 g12 ?_
  obtain ⟨g13, T⟩ := T
  exact R_call1 (Dat dd_L_law 635 rfl) rfl g13 rfl rfl rfl rfl rfl T
theorem t_L_law_970 {h : Hp} {P : Value → Hp → Prop} {a3 s0 : Int} {a0 : Nat} (T : (tg h a0 = 20 ∨ tg h a0 = 30) ∧ ((ln h a0 : Int) ≤ 2147483648) ∧ (0 ≤ (a3 + 1)) ∧ ((a3 + 1) < ln h a0) ∧ (tg h a0 = 20 ∨ tg h a0 = 30) ∧ ((ln h a0 : Int) ≤ 2147483648) ∧ (0 ≤ (a3 + 2)) ∧ ((a3 + 2) < ln h a0) ∧ (tg h a0 = 20 ∨ tg h a0 = 30) ∧ ((ln h a0 : Int) ≤ 2147483648) ∧ (0 ≤ (a3 + 3)) ∧ ((a3 + 3) < ln h a0) ∧ (tg h 400 = 13) ∧ R 184 0 [.ref 400, .int (I (iv h a0 (a3 + 1))), .int (I (iv h a0 (a3 + 2))), .int (I (iv h a0 (a3 + 3))), .retAddr 0, .retAddr 0] [] h (fun v h2 => R 208 989 [.ref a0, .ref 0, .ref 400, .int (I a3)] (v :: [.int (I s0)]) h2 P)) : R 208 970 [.ref a0, .ref 0, .ref 400, .int (I a3)] [.int (I s0)] h P := by
  refine R_aload_n (Dat dd_L_law 656 rfl) rfl rfl ?_
  refine R_aload_n (Dat dd_L_law 657 rfl) rfl rfl ?_
  refine R_iload_n (Dat dd_L_law 658 rfl) rfl ?_
  refine R_iconst (Dat dd_L_law 659 rfl) ?_
  refine R_iadd (Dat dd_L_law 660 rfl) ?_
  obtain ⟨g1, T⟩ := T
  obtain ⟨g2, T⟩ := T
  obtain ⟨g3, T⟩ := T
  obtain ⟨g4, T⟩ := T
  refine R_iaload (Dat dd_L_law 661 rfl) g1 g2 g3 g4 ?_
  refine R_aload_n (Dat dd_L_law 662 rfl) rfl rfl ?_
  refine R_iload_n (Dat dd_L_law 663 rfl) rfl ?_
  refine R_iconst (Dat dd_L_law 664 rfl) ?_
  refine R_iadd (Dat dd_L_law 665 rfl) ?_
  obtain ⟨g5, T⟩ := T
  obtain ⟨g6, T⟩ := T
  obtain ⟨g7, T⟩ := T
  obtain ⟨g8, T⟩ := T
  refine R_iaload (Dat dd_L_law 666 rfl) g5 g6 g7 g8 ?_
  refine R_aload_n (Dat dd_L_law 667 rfl) rfl rfl ?_
  refine R_iload_n (Dat dd_L_law 668 rfl) rfl ?_
  refine R_iconst (Dat dd_L_law 669 rfl) ?_
  refine R_iadd (Dat dd_L_law 670 rfl) ?_
  obtain ⟨g9, T⟩ := T
  obtain ⟨g10, T⟩ := T
  obtain ⟨g11, T⟩ := T
  obtain ⟨g12, T⟩ := T
  refine R_iaload (Dat dd_L_law 671 rfl) g9 g10 g11 g12 ?_
  obtain ⟨g13, T⟩ := T
  exact R_call1 (Dat dd_L_law 672 rfl) rfl g13 rfl rfl rfl rfl rfl T
theorem t_L_law_1003 {h : Hp} {P : Value → Hp → Prop} {a3 s0 : Int} {a0 : Nat} (T : (tg h a0 = 20 ∨ tg h a0 = 30) ∧ ((ln h a0 : Int) ≤ 2147483648) ∧ (0 ≤ (a3 + 1)) ∧ ((a3 + 1) < ln h a0) ∧ (tg h 400 = 13) ∧ R 186 0 [.ref 400, .int (I (iv h a0 (a3 + 1))), .retAddr 0, .retAddr 0] [] h (fun v h2 => R 208 1012 [.ref a0, .ref 0, .ref 400, .int (I a3)] (v :: [.int (I s0)]) h2 P)) : R 208 1003 [.ref a0, .ref 0, .ref 400, .int (I a3)] [.int (I s0)] h P := by
  refine R_aload_n (Dat dd_L_law 683 rfl) rfl rfl ?_
  refine R_aload_n (Dat dd_L_law 684 rfl) rfl rfl ?_
  refine R_iload_n (Dat dd_L_law 685 rfl) rfl ?_
  refine R_iconst (Dat dd_L_law 686 rfl) ?_
  refine R_iadd (Dat dd_L_law 687 rfl) ?_
  obtain ⟨g1, T⟩ := T
  obtain ⟨g2, T⟩ := T
  obtain ⟨g3, T⟩ := T
  obtain ⟨g4, T⟩ := T
  refine R_iaload (Dat dd_L_law 688 rfl) g1 g2 g3 g4 ?_
  obtain ⟨g5, T⟩ := T
  exact R_call1 (Dat dd_L_law 689 rfl) rfl g5 rfl rfl rfl rfl rfl T
theorem t_L_law_1041 {h : Hp} {P : Value → Hp → Prop} {a3 s0 : Int} {a0 : Nat} (T : (tg h a0 = 20 ∨ tg h a0 = 30) ∧ ((ln h a0 : Int) ≤ 2147483648) ∧ (0 ≤ (a3 + 1)) ∧ ((a3 + 1) < ln h a0) ∧ (tg h a0 = 20 ∨ tg h a0 = 30) ∧ ((ln h a0 : Int) ≤ 2147483648) ∧ (0 ≤ (a3 + 2)) ∧ ((a3 + 2) < ln h a0) ∧ (tg h a0 = 20 ∨ tg h a0 = 30) ∧ ((ln h a0 : Int) ≤ 2147483648) ∧ (0 ≤ (a3 + 3)) ∧ ((a3 + 3) < ln h a0) ∧ (tg h a0 = 20 ∨ tg h a0 = 30) ∧ ((ln h a0 : Int) ≤ 2147483648) ∧ (0 ≤ (a3 + 4)) ∧ ((a3 + 4) < ln h a0) ∧ (tg h 400 = 13) ∧ R 187 0 [.ref 400, .int (I (iv h a0 (a3 + 1))), .int (I (iv h a0 (a3 + 2))), .int (I (iv h a0 (a3 + 3))), .int (I (iv h a0 (a3 + 4))), .retAddr 0, .retAddr 0, .retAddr 0] [] h (fun v h2 => R 208 1065 [.ref a0, .ref 0, .ref 400, .int (I a3)] (v :: [.long (J s0)]) h2 P)) : R 208 1041 [.ref a0, .ref 0, .ref 400, .int (I a3)] [.long (J s0)] h P := by
  refine R_aload_n (Dat dd_L_law 715 rfl) rfl rfl ?_
  refine R_aload_n (Dat dd_L_law 716 rfl) rfl rfl ?_
  refine R_iload_n (Dat dd_L_law 717 rfl) rfl ?_
  refine R_iconst (Dat dd_L_law 718 rfl) ?_
  refine R_iadd (Dat dd_L_law 719 rfl) ?_
  obtain ⟨g1, T⟩ := T
  obtain ⟨g2, T⟩ := T
  obtain ⟨g3, T⟩ := T
  obtain ⟨g4, T⟩ := T
  refine R_iaload (Dat dd_L_law 720 rfl) g1 g2 g3 g4 ?_
  refine R_aload_n (Dat dd_L_law 721 rfl) rfl rfl ?_
  refine R_iload_n (Dat dd_L_law 722 rfl) rfl ?_
  refine R_iconst (Dat dd_L_law 723 rfl) ?_
  refine R_iadd (Dat dd_L_law 724 rfl) ?_
  obtain ⟨g5, T⟩ := T
  obtain ⟨g6, T⟩ := T
  obtain ⟨g7, T⟩ := T
  obtain ⟨g8, T⟩ := T
  refine R_iaload (Dat dd_L_law 725 rfl) g5 g6 g7 g8 ?_
  refine R_aload_n (Dat dd_L_law 726 rfl) rfl rfl ?_
  refine R_iload_n (Dat dd_L_law 727 rfl) rfl ?_
  refine R_iconst (Dat dd_L_law 728 rfl) ?_
  refine R_iadd (Dat dd_L_law 729 rfl) ?_
  obtain ⟨g9, T⟩ := T
  obtain ⟨g10, T⟩ := T
  obtain ⟨g11, T⟩ := T
  obtain ⟨g12, T⟩ := T
  refine R_iaload (Dat dd_L_law 730 rfl) g9 g10 g11 g12 ?_
  refine R_aload_n (Dat dd_L_law 731 rfl) rfl rfl ?_
  refine R_iload_n (Dat dd_L_law 732 rfl) rfl ?_
  refine R_iconst (Dat dd_L_law 733 rfl) ?_
  refine R_iadd (Dat dd_L_law 734 rfl) ?_
  obtain ⟨g13, T⟩ := T
  obtain ⟨g14, T⟩ := T
  obtain ⟨g15, T⟩ := T
  obtain ⟨g16, T⟩ := T
  refine R_iaload (Dat dd_L_law 735 rfl) g13 g14 g15 g16 ?_
  obtain ⟨g17, T⟩ := T
  exact R_call1 (Dat dd_L_law 736 rfl) rfl g17 rfl rfl rfl rfl rfl T
theorem t_L_law_1085 {h : Hp} {P : Value → Hp → Prop} {a3 s0 : Int} {a0 : Nat} (T : (tg h a0 = 20 ∨ tg h a0 = 30) ∧ ((ln h a0 : Int) ≤ 2147483648) ∧ (0 ≤ (a3 + 1)) ∧ ((a3 + 1) < ln h a0) ∧ (tg h a0 = 20 ∨ tg h a0 = 30) ∧ ((ln h a0 : Int) ≤ 2147483648) ∧ (0 ≤ (a3 + 2)) ∧ ((a3 + 2) < ln h a0) ∧ (tg h 400 = 13) ∧ R 189 0 [.ref 400, .int (I (iv h a0 (a3 + 1))), .int (I (iv h a0 (a3 + 2)))] [] h (fun v h2 => R 208 1099 [.ref a0, .ref 0, .ref 400, .int (I a3)] (v :: [.int (I s0)]) h2 P)) : R 208 1085 [.ref a0, .ref 0, .ref 400, .int (I a3)] [.int (I s0)] h P := by
  refine R_aload_n (Dat dd_L_law 753 rfl) rfl rfl ?_
  refine R_aload_n (Dat dd_L_law 754 rfl) rfl rfl ?_
  refine R_iload_n (Dat dd_L_law 755 rfl) rfl ?_
  refine R_iconst (Dat dd_L_law 756 rfl) ?_
  refine R_iadd (Dat dd_L_law 757 rfl) ?_
  obtain ⟨g1, T⟩ := T
  obtain ⟨g2, T⟩ := T
  obtain ⟨g3, T⟩ := T
  obtain ⟨g4, T⟩ := T
  refine R_iaload (Dat dd_L_law 758 rfl) g1 g2 g3 g4 ?_
  refine R_aload_n (Dat dd_L_law 759 rfl) rfl rfl ?_
  refine R_iload_n (Dat dd_L_law 760 rfl) rfl ?_
  refine R_iconst (Dat dd_L_law 761 rfl) ?_
  refine R_iadd (Dat dd_L_law 762 rfl) ?_
  obtain ⟨g5, T⟩ := T
  obtain ⟨g6, T⟩ := T
  obtain ⟨g7, T⟩ := T
  obtain ⟨g8, T⟩ := T
  refine R_iaload (Dat dd_L_law 763 rfl) g5 g6 g7 g8 ?_
  obtain ⟨g9, T⟩ := T
  exact R_call1 (Dat dd_L_law 764 rfl) rfl g9 rfl rfl rfl rfl rfl T
theorem t_L_law_1113 {h : Hp} {P : Value → Hp → Prop} {a3 s0 : Int} {a0 : Nat} (T : (tg h a0 = 20 ∨ tg h a0 = 30) ∧ ((ln h a0 : Int) ≤ 2147483648) ∧ (0 ≤ (a3 + 1)) ∧ ((a3 + 1) < ln h a0) ∧ (tg h 400 = 13) ∧ R 190 0 [.ref 400, .int (I (iv h a0 (a3 + 1)))] [] h (fun v h2 => R 208 1122 [.ref a0, .ref 0, .ref 400, .int (I a3)] (v :: [.int (I s0)]) h2 P)) : R 208 1113 [.ref a0, .ref 0, .ref 400, .int (I a3)] [.int (I s0)] h P := by
  refine R_aload_n (Dat dd_L_law 775 rfl) rfl rfl ?_
  refine R_aload_n (Dat dd_L_law 776 rfl) rfl rfl ?_
  refine R_iload_n (Dat dd_L_law 777 rfl) rfl ?_
  refine R_iconst (Dat dd_L_law 778 rfl) ?_
  refine R_iadd (Dat dd_L_law 779 rfl) ?_
  obtain ⟨g1, T⟩ := T
  obtain ⟨g2, T⟩ := T
  obtain ⟨g3, T⟩ := T
  obtain ⟨g4, T⟩ := T
  refine R_iaload (Dat dd_L_law 780 rfl) g1 g2 g3 g4 ?_
  obtain ⟨g5, T⟩ := T
  exact R_call1 (Dat dd_L_law 781 rfl) rfl g5 rfl rfl rfl rfl rfl T
theorem t_L_law_1141 {h : Hp} {P : Value → Hp → Prop} {a3 s0 : Int} {a0 : Nat} (T : (tg h a0 = 20 ∨ tg h a0 = 30) ∧ ((ln h a0 : Int) ≤ 2147483648) ∧ (0 ≤ (a3 + 1)) ∧ ((a3 + 1) < ln h a0) ∧ (tg h a0 = 20 ∨ tg h a0 = 30) ∧ ((ln h a0 : Int) ≤ 2147483648) ∧ (0 ≤ (a3 + 2)) ∧ ((a3 + 2) < ln h a0) ∧ (tg h 400 = 13) ∧ R 191 0 [.ref 400, .int (I (iv h a0 (a3 + 1))), .int (I (iv h a0 (a3 + 2))), .retAddr 0, .retAddr 0] [] h (fun v h2 => R 208 1155 [.ref a0, .ref 0, .ref 400, .int (I a3)] (v :: [.int (I s0)]) h2 P)) : R 208 1141 [.ref a0, .ref 0, .ref 400, .int (I a3)] [.int (I s0)] h P := by
  refine R_aload_n (Dat dd_L_law 797 rfl) rfl rfl ?_
  refine R_aload_n (Dat dd_L_law 798 rfl) rfl rfl ?_
  refine R_iload_n (Dat dd_L_law 799 rfl) rfl ?_
  refine R_iconst (Dat dd_L_law 800 rfl) ?_
  refine R_iadd (Dat dd_L_law 801 rfl) ?_
  obtain ⟨g1, T⟩ := T
  obtain ⟨g2, T⟩ := T
  obtain ⟨g3, T⟩ := T
  obtain ⟨g4, T⟩ := T
  refine R_iaload (Dat dd_L_law 802 rfl) g1 g2 g3 g4 ?_
  refine R_aload_n (Dat dd_L_law 803 rfl) rfl rfl ?_
  refine R_iload_n (Dat dd_L_law 804 rfl) rfl ?_
  refine R_iconst (Dat dd_L_law 805 rfl) ?_
  refine R_iadd (Dat dd_L_law 806 rfl) ?_
  obtain ⟨g5, T⟩ := T
  obtain ⟨g6, T⟩ := T
  obtain ⟨g7, T⟩ := T
  obtain ⟨g8, T⟩ := T
  refine R_iaload (Dat dd_L_law 807 rfl) g5 g6 g7 g8 ?_
  obtain ⟨g9, T⟩ := T
  exact R_call1 (Dat dd_L_law 808 rfl) rfl g9 rfl rfl rfl rfl rfl T
theorem t_L_law_1195 {h : Hp} {P : Value → Hp → Prop} {a3 s0 : Int} {a0 : Nat} (T : (tg h a0 = 20 ∨ tg h a0 = 30) ∧ ((ln h a0 : Int) ≤ 2147483648) ∧ (0 ≤ (a3 + 1)) ∧ ((a3 + 1) < ln h a0) ∧ (tg h a0 = 20 ∨ tg h a0 = 30) ∧ ((ln h a0 : Int) ≤ 2147483648) ∧ (0 ≤ (a3 + 2)) ∧ ((a3 + 2) < ln h a0) ∧ (tg h a0 = 20 ∨ tg h a0 = 30) ∧ ((ln h a0 : Int) ≤ 2147483648) ∧ (0 ≤ (a3 + 3)) ∧ ((a3 + 3) < ln h a0) ∧ (tg h a0 = 20 ∨ tg h a0 = 30) ∧ ((ln h a0 : Int) ≤ 2147483648) ∧ (0 ≤ (a3 + 4)) ∧ ((a3 + 4) < ln h a0) ∧ (tg h a0 = 20 ∨ tg h a0 = 30) ∧ ((ln h a0 : Int) ≤ 2147483648) ∧ (0 ≤ (a3 + 5)) ∧ ((a3 + 5) < ln h a0) ∧ (tg h a0 = 20 ∨ tg h a0 = 30) ∧ ((ln h a0 : Int) ≤ 2147483648) ∧ (0 ≤ (a3 + 6)) ∧ ((a3 + 6) < ln h a0) ∧ (tg h 400 = 13) ∧ R 193 0 [.ref 400, .int (I (iv h a0 (a3 + 1))), .int (I (iv h a0 (a3 + 2))), .int (I (iv h a0 (a3 + 3))), .int (I (iv h a0 (a3 + 4))), .int (I (iv h a0 (a3 + 5))), .int (I (iv h a0 (a3 + 6))), .retAddr 0, .retAddr 0, .retAddr 0, .retAddr 0, .retAddr 0] [] h (fun v h2 => R 208 1230 [.ref a0, .ref 0, .ref 400, .int (I a3)] (v :: [.int (I s0)]) h2 P)) : R 208 1195 [.ref a0, .ref 0, .ref 400, .int (I a3)] [.int (I s0)] h P := by
  refine R_aload_n (Dat dd_L_law 844 rfl) rfl rfl ?_
  refine R_aload_n (Dat dd_L_law 845 rfl) rfl rfl ?_
  refine R_iload_n (Dat dd_L_law 846 rfl) rfl ?_
  refine R_iconst (Dat dd_L_law 847 rfl) ?_
  refine R_iadd (Dat dd_L_law 848 rfl) ?_
  obtain ⟨g1, T⟩ := T
  obtain ⟨g2, T⟩ := T
  obtain ⟨g3, T⟩ := T
  obtain ⟨g4, T⟩ := T
  refine R_iaload (Dat dd_L_law 849 rfl) g1 g2 g3 g4 ?_
  refine R_aload_n (Dat dd_L_law 850 rfl) rfl rfl ?_
  refine R_iload_n (Dat dd_L_law 851 rfl) rfl ?_
  refine R_iconst (Dat dd_L_law 852 rfl) ?_
  refine R_iadd (Dat dd_L_law 853 rfl) ?_
  obtain ⟨g5, T⟩ := T
  obtain ⟨g6, T⟩ := T
  obtain ⟨g7, T⟩ := T
  obtain ⟨g8, T⟩ := T
  refine R_iaload (Dat dd_L_law 854 rfl) g5 g6 g7 g8 ?_
  refine R_aload_n (Dat dd_L_law 855 rfl) rfl rfl ?_
  refine R_iload_n (Dat dd_L_law 856 rfl) rfl ?_
  refine R_iconst (Dat dd_L_law 857 rfl) ?_
  refine R_iadd (Dat dd_L_law 858 rfl) ?_
  obtain ⟨g9, T⟩ := T
  obtain ⟨g10, T⟩ := T
  obtain ⟨g11, T⟩ := T
  obtain ⟨g12, T⟩ := T
  refine R_iaload (Dat dd_L_law 859 rfl) g9 g10 g11 g12 ?_
  refine R_aload_n (Dat dd_L_law 860 rfl) rfl rfl ?_
  refine R_iload_n (Dat dd_L_law 861 rfl) rfl ?_
  refine R_iconst (Dat dd_L_law 862 rfl) ?_
  refine R_iadd (Dat dd_L_law 863 rfl) ?_
  obtain ⟨g13, T⟩ := T
  obtain ⟨g14, T⟩ := T
  obtain ⟨g15, T⟩ := T
  obtain ⟨g16, T⟩ := T
  refine R_iaload (Dat dd_L_law 864 rfl) g13 g14 g15 g16 ?_
  refine R_aload_n (Dat dd_L_law 865 rfl) rfl rfl ?_
  refine R_iload_n (Dat dd_L_law 866 rfl) rfl ?_
  refine R_iconst (Dat dd_L_law 867 rfl) ?_
  refine R_iadd (Dat dd_L_law 868 rfl) ?_
  obtain ⟨g17, T⟩ := T
  obtain ⟨g18, T⟩ := T
  obtain ⟨g19, T⟩ := T
  obtain ⟨g20, T⟩ := T
  refine R_iaload (Dat dd_L_law 869 rfl) g17 g18 g19 g20 ?_
  refine R_aload_n (Dat dd_L_law 870 rfl) rfl rfl ?_
  refine R_iload_n (Dat dd_L_law 871 rfl) rfl ?_
  refine R_bipush (Dat dd_L_law 872 rfl) (a := 6) rfl ?_
  refine R_iadd (Dat dd_L_law 873 rfl) ?_
  obtain ⟨g21, T⟩ := T
  obtain ⟨g22, T⟩ := T
  obtain ⟨g23, T⟩ := T
  obtain ⟨g24, T⟩ := T
  refine R_iaload (Dat dd_L_law 874 rfl) g21 g22 g23 g24 ?_
  obtain ⟨g25, T⟩ := T
  exact R_call1 (Dat dd_L_law 875 rfl) rfl g25 rfl rfl rfl rfl rfl T
theorem t_L_law_1249 {h : Hp} {P : Value → Hp → Prop} {a3 s0 : Int} {a0 : Nat} (T : (tg h a0 = 20 ∨ tg h a0 = 30) ∧ ((ln h a0 : Int) ≤ 2147483648) ∧ (0 ≤ (a3 + 1)) ∧ ((a3 + 1) < ln h a0) ∧ (tg h a0 = 20 ∨ tg h a0 = 30) ∧ ((ln h a0 : Int) ≤ 2147483648) ∧ (0 ≤ (a3 + 2)) ∧ ((a3 + 2) < ln h a0) ∧ (tg h 400 = 13) ∧ R 194 0 [.ref 400, .int (I (iv h a0 (a3 + 1))), .int (I (iv h a0 (a3 + 2))), .retAddr 0, .retAddr 0] [] h (fun v h2 => R 208 1263 [.ref a0, .ref 0, .ref 400, .int (I a3)] (v :: [.int (I s0)]) h2 P)) : R 208 1249 [.ref a0, .ref 0, .ref 400, .int (I a3)] [.int (I s0)] h P := by
  refine R_aload_n (Dat dd_L_law 891 rfl) rfl rfl ?_
  refine R_aload_n (Dat dd_L_law 892 rfl) rfl rfl ?_
  refine R_iload_n (Dat dd_L_law 893 rfl) rfl ?_
  refine R_iconst (Dat dd_L_law 894 rfl) ?_
  refine R_iadd (Dat dd_L_law 895 rfl) ?_
  obtain ⟨g1, T⟩ := T
  obtain ⟨g2, T⟩ := T
  obtain ⟨g3, T⟩ := T
  obtain ⟨g4, T⟩ := T
  refine R_iaload (Dat dd_L_law 896 rfl) g1 g2 g3 g4 ?_
  refine R_aload_n (Dat dd_L_law 897 rfl) rfl rfl ?_
  refine R_iload_n (Dat dd_L_law 898 rfl) rfl ?_
  refine R_iconst (Dat dd_L_law 899 rfl) ?_
  refine R_iadd (Dat dd_L_law 900 rfl) ?_
  obtain ⟨g5, T⟩ := T
  obtain ⟨g6, T⟩ := T
  obtain ⟨g7, T⟩ := T
  obtain ⟨g8, T⟩ := T
  refine R_iaload (Dat dd_L_law 901 rfl) g5 g6 g7 g8 ?_
  obtain ⟨g9, T⟩ := T
  exact R_call1 (Dat dd_L_law 902 rfl) rfl g9 rfl rfl rfl rfl rfl T
theorem t_L_law_1287 {h : Hp} {P : Value → Hp → Prop} {a3 s0 : Int} {a0 : Nat} (T : (tg h a0 = 20 ∨ tg h a0 = 30) ∧ ((ln h a0 : Int) ≤ 2147483648) ∧ (0 ≤ (a3 + 1)) ∧ ((a3 + 1) < ln h a0) ∧ (tg h a0 = 20 ∨ tg h a0 = 30) ∧ ((ln h a0 : Int) ≤ 2147483648) ∧ (0 ≤ (a3 + 2)) ∧ ((a3 + 2) < ln h a0) ∧ (tg h a0 = 20 ∨ tg h a0 = 30) ∧ ((ln h a0 : Int) ≤ 2147483648) ∧ (0 ≤ (a3 + 3)) ∧ ((a3 + 3) < ln h a0) ∧ (tg h 400 = 13) ∧ R 195 0 [.ref 400, .int (I (iv h a0 (a3 + 1))), .int (I (iv h a0 (a3 + 2))), .int (I (iv h a0 (a3 + 3))), .retAddr 0] [] h (fun v h2 => R 208 1306 [.ref a0, .ref 0, .ref 400, .int (I a3)] (v :: [.int (I s0)]) h2 P)) : R 208 1287 [.ref a0, .ref 0, .ref 400, .int (I a3)] [.int (I s0)] h P := by
  refine R_aload_n (Dat dd_L_law 923 rfl) rfl rfl ?_
  refine R_aload_n (Dat dd_L_law 924 rfl) rfl rfl ?_
  refine R_iload_n (Dat dd_L_law 925 rfl) rfl ?_
  refine R_iconst (Dat dd_L_law 926 rfl) ?_
  refine R_iadd (Dat dd_L_law 927 rfl) ?_
  obtain ⟨g1, T⟩ := T
  obtain ⟨g2, T⟩ := T
  obtain ⟨g3, T⟩ := T
  obtain ⟨g4, T⟩ := T
  refine R_iaload (Dat dd_L_law 928 rfl) g1 g2 g3 g4 ?_
  refine R_aload_n (Dat dd_L_law 929 rfl) rfl rfl ?_
  refine R_iload_n (Dat dd_L_law 930 rfl) rfl ?_
  refine R_iconst (Dat dd_L_law 931 rfl) ?_
  refine R_iadd (Dat dd_L_law 932 rfl) ?_
  obtain ⟨g5, T⟩ := T
  obtain ⟨g6, T⟩ := T
  obtain ⟨g7, T⟩ := T
  obtain ⟨g8, T⟩ := T
  refine R_iaload (Dat dd_L_law 933 rfl) g5 g6 g7 g8 ?_
  refine R_aload_n (Dat dd_L_law 934 rfl) rfl rfl ?_
  refine R_iload_n (Dat dd_L_law 935 rfl) rfl ?_
  refine R_iconst (Dat dd_L_law 936 rfl) ?_
  refine R_iadd (Dat dd_L_law 937 rfl) ?_
  obtain ⟨g9, T⟩ := T
  obtain ⟨g10, T⟩ := T
  obtain ⟨g11, T⟩ := T
  obtain ⟨g12, T⟩ := T
  refine R_iaload (Dat dd_L_law 938 rfl) g9 g10 g11 g12 ?_
  obtain ⟨g13, T⟩ := T
  exact R_call1 (Dat dd_L_law 939 rfl) rfl g13 rfl rfl rfl rfl rfl T
theorem t_L_law_1320 {h : Hp} {P : Value → Hp → Prop} {a3 s0 : Int} {a0 : Nat} (T : (tg h a0 = 20 ∨ tg h a0 = 30) ∧ ((ln h a0 : Int) ≤ 2147483648) ∧ (0 ≤ (a3 + 1)) ∧ ((a3 + 1) < ln h a0) ∧ (tg h 400 = 13) ∧ R 196 0 [.ref 400, .int (I (iv h a0 (a3 + 1))), .retAddr 0] [] h (fun v h2 => R 208 1329 [.ref a0, .ref 0, .ref 400, .int (I a3)] (v :: [.int (I s0)]) h2 P)) : R 208 1320 [.ref a0, .ref 0, .ref 400, .int (I a3)] [.int (I s0)] h P := by
  refine R_aload_n (Dat dd_L_law 950 rfl) rfl rfl ?_
  refine R_aload_n (Dat dd_L_law 951 rfl) rfl rfl ?_
  refine R_iload_n (Dat dd_L_law 952 rfl) rfl ?_
  refine R_iconst (Dat dd_L_law 953 rfl) ?_
  refine R_iadd (Dat dd_L_law 954 rfl) ?_
  obtain ⟨g1, T⟩ := T
  obtain ⟨g2, T⟩ := T
  obtain ⟨g3, T⟩ := T
  obtain ⟨g4, T⟩ := T
  refine R_iaload (Dat dd_L_law 955 rfl) g1 g2 g3 g4 ?_
  obtain ⟨g5, T⟩ := T
  exact R_call1 (Dat dd_L_law 956 rfl) rfl g5 rfl rfl rfl rfl rfl T
theorem t_L_law_1353 {h : Hp} {P : Value → Hp → Prop} {a3 s0 : Int} {a0 : Nat} (T : (tg h a0 = 20 ∨ tg h a0 = 30) ∧ ((ln h a0 : Int) ≤ 2147483648) ∧ (0 ≤ (a3 + 1)) ∧ ((a3 + 1) < ln h a0) ∧ (tg h a0 = 20 ∨ tg h a0 = 30) ∧ ((ln h a0 : Int) ≤ 2147483648) ∧ (0 ≤ (a3 + 2)) ∧ ((a3 + 2) < ln h a0) ∧ (tg h a0 = 20 ∨ tg h a0 = 30) ∧ ((ln h a0 : Int) ≤ 2147483648) ∧ (0 ≤ (a3 + 3)) ∧ ((a3 + 3) < ln h a0) ∧ (tg h 400 = 13) ∧ R 197 0 [.ref 400, .int (I (iv h a0 (a3 + 1))), .int (I (iv h a0 (a3 + 2))), .int (I (iv h a0 (a3 + 3)))] [] h (fun v h2 => R 208 1372 [.ref a0, .ref 0, .ref 400, .int (I a3)] (v :: [.int (I s0)]) h2 P)) : R 208 1353 [.ref a0, .ref 0, .ref 400, .int (I a3)] [.int (I s0)] h P := by
  refine R_aload_n (Dat dd_L_law 977 rfl) rfl rfl ?_
  refine R_aload_n (Dat dd_L_law 978 rfl) rfl rfl ?_
  refine R_iload_n (Dat dd_L_law 979 rfl) rfl ?_
  refine R_iconst (Dat dd_L_law 980 rfl) ?_
  refine R_iadd (Dat dd_L_law 981 rfl) ?_
  obtain ⟨g1, T⟩ := T
  obtain ⟨g2, T⟩ := T
  obtain ⟨g3, T⟩ := T
  obtain ⟨g4, T⟩ := T
  refine R_iaload (Dat dd_L_law 982 rfl) g1 g2 g3 g4 ?_
  refine R_aload_n (Dat dd_L_law 983 rfl) rfl rfl ?_
  refine R_iload_n (Dat dd_L_law 984 rfl) rfl ?_
  refine R_iconst (Dat dd_L_law 985 rfl) ?_
  refine R_iadd (Dat dd_L_law 986 rfl) ?_
  obtain ⟨g5, T⟩ := T
  obtain ⟨g6, T⟩ := T
  obtain ⟨g7, T⟩ := T
  obtain ⟨g8, T⟩ := T
  refine R_iaload (Dat dd_L_law 987 rfl) g5 g6 g7 g8 ?_
  refine R_aload_n (Dat dd_L_law 988 rfl) rfl rfl ?_
  refine R_iload_n (Dat dd_L_law 989 rfl) rfl ?_
  refine R_iconst (Dat dd_L_law 990 rfl) ?_
  refine R_iadd (Dat dd_L_law 991 rfl) ?_
  obtain ⟨g9, T⟩ := T
  obtain ⟨g10, T⟩ := T
  obtain ⟨g11, T⟩ := T
  obtain ⟨g12, T⟩ := T
  refine R_iaload (Dat dd_L_law 992 rfl) g9 g10 g11 g12 ?_
  obtain ⟨g13, T⟩ := T
  exact R_call1 (Dat dd_L_law 993 rfl) rfl g13 rfl rfl rfl rfl rfl T
theorem t_L_law_1396 {h : Hp} {P : Value → Hp → Prop} {a3 s0 : Int} {a0 : Nat} (T : (tg h a0 = 20 ∨ tg h a0 = 30) ∧ ((ln h a0 : Int) ≤ 2147483648) ∧ (0 ≤ (a3 + 1)) ∧ ((a3 + 1) < ln h a0) ∧ (tg h a0 = 20 ∨ tg h a0 = 30) ∧ ((ln h a0 : Int) ≤ 2147483648) ∧ (0 ≤ (a3 + 2)) ∧ ((a3 + 2) < ln h a0) ∧ (tg h a0 = 20 ∨ tg h a0 = 30) ∧ ((ln h a0 : Int) ≤ 2147483648) ∧ (0 ≤ (a3 + 3)) ∧ ((a3 + 3) < ln h a0) ∧ (tg h 400 = 13) ∧ R 198 0 [.ref 400, .int (I (iv h a0 (a3 + 1))), .int (I (iv h a0 (a3 + 2))), .int (I (iv h a0 (a3 + 3)))] [] h (fun v h2 => R 208 1415 [.ref a0, .ref 0, .ref 400, .int (I a3)] (v :: [.long (J s0)]) h2 P)) : R 208 1396 [.ref a0, .ref 0, .ref 400, .int (I a3)] [.long (J s0)] h P := by
  refine R_aload_n (Dat dd_L_law 1014 rfl) rfl rfl ?_
  refine R_aload_n (Dat dd_L_law 1015 rfl) rfl rfl ?_
  refine R_iload_n (Dat dd_L_law 1016 rfl) rfl ?_
  refine R_iconst (Dat dd_L_law 1017 rfl) ?_
  refine R_iadd (Dat dd_L_law 1018 rfl) ?_
  obtain ⟨g1, T⟩ := T
  obtain ⟨g2, T⟩ := T
  obtain ⟨g3, T⟩ := T
  obtain ⟨g4, T⟩ := T
  refine R_iaload (Dat dd_L_law 1019 rfl) g1 g2 g3 g4 ?_
  refine R_aload_n (Dat dd_L_law 1020 rfl) rfl rfl ?_
  refine R_iload_n (Dat dd_L_law 1021 rfl) rfl ?_
  refine R_iconst (Dat dd_L_law 1022 rfl) ?_
  refine R_iadd (Dat dd_L_law 1023 rfl) ?_
  obtain ⟨g5, T⟩ := T
  obtain ⟨g6, T⟩ := T
  obtain ⟨g7, T⟩ := T
  obtain ⟨g8, T⟩ := T
  refine R_iaload (Dat dd_L_law 1024 rfl) g5 g6 g7 g8 ?_
  refine R_aload_n (Dat dd_L_law 1025 rfl) rfl rfl ?_
  refine R_iload_n (Dat dd_L_law 1026 rfl) rfl ?_
  refine R_iconst (Dat dd_L_law 1027 rfl) ?_
  refine R_iadd (Dat dd_L_law 1028 rfl) ?_
  obtain ⟨g9, T⟩ := T
  obtain ⟨g10, T⟩ := T
  obtain ⟨g11, T⟩ := T
  obtain ⟨g12, T⟩ := T
  refine R_iaload (Dat dd_L_law 1029 rfl) g9 g10 g11 g12 ?_
  obtain ⟨g13, T⟩ := T
  exact R_call1 (Dat dd_L_law 1030 rfl) rfl g13 rfl rfl rfl rfl rfl T
theorem t_L_law_1450 {h : Hp} {P : Value → Hp → Prop} {a3 s0 : Int} {a0 : Nat} (T : (tg h a0 = 20 ∨ tg h a0 = 30) ∧ ((ln h a0 : Int) ≤ 2147483648) ∧ (0 ≤ (a3 + 1)) ∧ ((a3 + 1) < ln h a0) ∧ (tg h a0 = 20 ∨ tg h a0 = 30) ∧ ((ln h a0 : Int) ≤ 2147483648) ∧ (0 ≤ (a3 + 2)) ∧ ((a3 + 2) < ln h a0) ∧ (tg h a0 = 20 ∨ tg h a0 = 30) ∧ ((ln h a0 : Int) ≤ 2147483648) ∧ (0 ≤ (a3 + 3)) ∧ ((a3 + 3) < ln h a0) ∧ (tg h a0 = 20 ∨ tg h a0 = 30) ∧ ((ln h a0 : Int) ≤ 2147483648) ∧ (0 ≤ (a3 + 4)) ∧ ((a3 + 4) < ln h a0) ∧ (tg h a0 = 20 ∨ tg h a0 = 30) ∧ ((ln h a0 : Int) ≤ 2147483648) ∧ (0 ≤ (a3 + 5)) ∧ ((a3 + 5) < ln h a0) ∧ (tg h 400 = 13) ∧ R 200 0 [.ref 400, .int (I (iv h a0 (a3 + 1))), .int (I (iv h a0 (a3 + 2))), .int (I (iv h a0 (a3 + 3))), .int (I (iv h a0 (a3 + 4))), .int (I (iv h a0 (a3 + 5))), .retAddr 0, .retAddr 0, .retAddr 0, .retAddr 0] [] h (fun v h2 => R 208 1479 [.ref a0, .ref 0, .ref 400, .int (I a3)] (v :: [.int (I s0)]) h2 P)) : R 208 1450 [.ref a0, .ref 0, .ref 400, .int (I a3)] [.int (I s0)] h P := by
  refine R_aload_n (Dat dd_L_law 1062 rfl) rfl rfl ?_
  refine R_aload_n (Dat dd_L_law 1063 rfl) rfl rfl ?_
  refine R_iload_n (Dat dd_L_law 1064 rfl) rfl ?_
  refine R_iconst (Dat dd_L_law 1065 rfl) ?_
  refine R_iadd (Dat dd_L_law 1066 rfl) ?_
  obtain ⟨g1, T⟩ := T
  obtain ⟨g2, T⟩ := T
  obtain ⟨g3, T⟩ := T
  obtain ⟨g4, T⟩ := T
  refine R_iaload (Dat dd_L_law 1067 rfl) g1 g2 g3 g4 ?_
  refine R_aload_n (Dat dd_L_law 1068 rfl) rfl rfl ?_
  refine R_iload_n (Dat dd_L_law 1069 rfl) rfl ?_
  refine R_iconst (Dat dd_L_law 1070 rfl) ?_
  refine R_iadd (Dat dd_L_law 1071 rfl) ?_
  obtain ⟨g5, T⟩ := T
  obtain ⟨g6, T⟩ := T
  obtain ⟨g7, T⟩ := T
  obtain ⟨g8, T⟩ := T
  refine R_iaload (Dat dd_L_law 1072 rfl) g5 g6 g7 g8 ?_
  refine R_aload_n (Dat dd_L_law 1073 rfl) rfl rfl ?_
  refine R_iload_n (Dat dd_L_law 1074 rfl) rfl ?_
  refine R_iconst (Dat dd_L_law 1075 rfl) ?_
  refine R_iadd (Dat dd_L_law 1076 rfl) ?_
  obtain ⟨g9, T⟩ := T
  obtain ⟨g10, T⟩ := T
  obtain ⟨g11, T⟩ := T
  obtain ⟨g12, T⟩ := T
  refine R_iaload (Dat dd_L_law 1077 rfl) g9 g10 g11 g12 ?_
  refine R_aload_n (Dat dd_L_law 1078 rfl) rfl rfl ?_
  refine R_iload_n (Dat dd_L_law 1079 rfl) rfl ?_
  refine R_iconst (Dat dd_L_law 1080 rfl) ?_
  refine R_iadd (Dat dd_L_law 1081 rfl) ?_
  obtain ⟨g13, T⟩ := T
  obtain ⟨g14, T⟩ := T
  obtain ⟨g15, T⟩ := T
  obtain ⟨g16, T⟩ := T
  refine R_iaload (Dat dd_L_law 1082 rfl) g13 g14 g15 g16 ?_
  refine R_aload_n (Dat dd_L_law 1083 rfl) rfl rfl ?_
  refine R_iload_n (Dat dd_L_law 1084 rfl) rfl ?_
  refine R_iconst (Dat dd_L_law 1085 rfl) ?_
  refine R_iadd (Dat dd_L_law 1086 rfl) ?_
  obtain ⟨g17, T⟩ := T
  obtain ⟨g18, T⟩ := T
  obtain ⟨g19, T⟩ := T
  obtain ⟨g20, T⟩ := T
  refine R_iaload (Dat dd_L_law 1087 rfl) g17 g18 g19 g20 ?_
  obtain ⟨g21, T⟩ := T
  exact R_call1 (Dat dd_L_law 1088 rfl) rfl g21 rfl rfl rfl rfl rfl T
theorem t_L_law_1493 {h : Hp} {P : Value → Hp → Prop} {a3 s0 : Int} {a0 : Nat} (T : (tg h a0 = 20 ∨ tg h a0 = 30) ∧ ((ln h a0 : Int) ≤ 2147483648) ∧ (0 ≤ (a3 + 1)) ∧ ((a3 + 1) < ln h a0) ∧ (tg h 400 = 13) ∧ R 201 0 [.ref 400, .int (I (iv h a0 (a3 + 1))), .retAddr 0] [] h (fun v h2 => R 208 1502 [.ref a0, .ref 0, .ref 400, .int (I a3)] (v :: [.int (I s0)]) h2 P)) : R 208 1493 [.ref a0, .ref 0, .ref 400, .int (I a3)] [.int (I s0)] h P := by
  refine R_aload_n (Dat dd_L_law 1099 rfl) rfl rfl ?_
  refine R_aload_n (Dat dd_L_law 1100 rfl) rfl rfl ?_
  refine R_iload_n (Dat dd_L_law 1101 rfl) rfl ?_
  refine R_iconst (Dat dd_L_law 1102 rfl) ?_
  refine R_iadd (Dat dd_L_law 1103 rfl) ?_
  obtain ⟨g1, T⟩ := T
  obtain ⟨g2, T⟩ := T
  obtain ⟨g3, T⟩ := T
  obtain ⟨g4, T⟩ := T
  refine R_iaload (Dat dd_L_law 1104 rfl) g1 g2 g3 g4 ?_
  obtain ⟨g5, T⟩ := T
  exact R_call1 (Dat dd_L_law 1105 rfl) rfl g5 rfl rfl rfl rfl rfl T
theorem t_L_law_1516 {h : Hp} {P : Value → Hp → Prop} {a3 s0 : Int} {a0 : Nat} (T : (tg h a0 = 20 ∨ tg h a0 = 30) ∧ ((ln h a0 : Int) ≤ 2147483648) ∧ (0 ≤ (a3 + 1)) ∧ ((a3 + 1) < ln h a0) ∧ (tg h 400 = 13) ∧ R 203 0 [.ref 400, .int (I (iv h a0 (a3 + 1)))] [] h (fun v h2 => R 208 1525 [.ref a0, .ref 0, .ref 400, .int (I a3)] (v :: [.int (I s0)]) h2 P)) : R 208 1516 [.ref a0, .ref 0, .ref 400, .int (I a3)] [.int (I s0)] h P := by
  refine R_aload_n (Dat dd_L_law 1116 rfl) rfl rfl ?_
  refine R_aload_n (Dat dd_L_law 1117 rfl) rfl rfl ?_
  refine R_iload_n (Dat dd_L_law 1118 rfl) rfl ?_
  refine R_iconst (Dat dd_L_law 1119 rfl) ?_
  refine R_iadd (Dat dd_L_law 1120 rfl) ?_
  obtain ⟨g1, T⟩ := T
  obtain ⟨g2, T⟩ := T
  obtain ⟨g3, T⟩ := T
  obtain ⟨g4, T⟩ := T
  refine R_iaload (Dat dd_L_law 1121 rfl) g1 g2 g3 g4 ?_
  obtain ⟨g5, T⟩ := T
  exact R_call1 (Dat dd_L_law 1122 rfl) rfl g5 rfl rfl rfl rfl rfl T
theorem t_L_law_1544 {h : Hp} {P : Value → Hp → Prop} {a3 s0 : Int} {a0 : Nat} (T : (tg h a0 = 20 ∨ tg h a0 = 30) ∧ ((ln h a0 : Int) ≤ 2147483648) ∧ (0 ≤ (a3 + 1)) ∧ ((a3 + 1) < ln h a0) ∧ (tg h a0 = 20 ∨ tg h a0 = 30) ∧ ((ln h a0 : Int) ≤ 2147483648) ∧ (0 ≤ (a3 + 2)) ∧ ((a3 + 2) < ln h a0) ∧ (tg h 400 = 13) ∧ R 204 0 [.ref 400, .int (I (iv h a0 (a3 + 1))), .int (I (iv h a0 (a3 + 2)))] [] h (fun v h2 => R 208 1558 [.ref a0, .ref 0, .ref 400, .int (I a3)] (v :: [.int (I s0)]) h2 P)) : R 208 1544 [.ref a0, .ref 0, .ref 400, .int (I a3)] [.int (I s0)] h P := by
  refine R_aload_n (Dat dd_L_law 1138 rfl) rfl rfl ?_
  refine R_aload_n (Dat dd_L_law 1139 rfl) rfl rfl ?_
  refine R_iload_n (Dat dd_L_law 1140 rfl) rfl ?_
  refine R_iconst (Dat dd_L_law 1141 rfl) ?_
  refine R_iadd (Dat dd_L_law 1142 rfl) ?_
  obtain ⟨g1, T⟩ := T
  obtain ⟨g2, T⟩ := T
  obtain ⟨g3, T⟩ := T
  obtain ⟨g4, T⟩ := T
  refine R_iaload (Dat dd_L_law 1143 rfl) g1 g2 g3 g4 ?_
  refine R_aload_n (Dat dd_L_law 1144 rfl) rfl rfl ?_
  refine R_iload_n (Dat dd_L_law 1145 rfl) rfl ?_
  refine R_iconst (Dat dd_L_law 1146 rfl) ?_
  refine R_iadd (Dat dd_L_law 1147 rfl) ?_
  obtain ⟨g5, T⟩ := T
  obtain ⟨g6, T⟩ := T
  obtain ⟨g7, T⟩ := T
  obtain ⟨g8, T⟩ := T
  refine R_iaload (Dat dd_L_law 1148 rfl) g5 g6 g7 g8 ?_
  obtain ⟨g9, T⟩ := T
  exact R_call1 (Dat dd_L_law 1149 rfl) rfl g9 rfl rfl rfl rfl rfl T
theorem t_L_law_1567 {h : Hp} {P : Value → Hp → Prop} {a3 s0 : Int} {a0 : Nat} (T : (tg h 400 = 13) ∧ R 205 0 [.ref 400] [] h (fun v h2 => R 208 1571 [.ref a0, .ref 0, .ref 400, .int (I a3)] (v :: [.int (I s0)]) h2 P)) : R 208 1567 [.ref a0, .ref 0, .ref 400, .int (I a3)] [.int (I s0)] h P := by
  refine R_aload_n (Dat dd_L_law 1155 rfl) rfl rfl ?_
  obtain ⟨g1, T⟩ := T
  exact R_call1 (Dat dd_L_law 1156 rfl) rfl g1 rfl rfl rfl rfl rfl T
theorem t_L_law_1580 {h : Hp} {P : Value → Hp → Prop} {a3 s0 : Int} {a0 : Nat} (T : (tg h 400 = 13) ∧ R 206 0 [.ref 400] [] h (fun v h2 => R 208 1584 [.ref a0, .ref 0, .ref 400, .int (I a3)] (v :: [.int (I s0)]) h2 P)) : R 208 1580 [.ref a0, .ref 0, .ref 400, .int (I a3)] [.int (I s0)] h P := by
  refine R_aload_n (Dat dd_L_law 1162 rfl) rfl rfl ?_
  obtain ⟨g1, T⟩ := T
  exact R_call1 (Dat dd_L_law 1163 rfl) rfl g1 rfl rfl rfl rfl rfl T
theorem t_L_law_1598 {h : Hp} {P : Value → Hp → Prop} {a3 s0 : Int} {a0 : Nat} (T : (tg h a0 = 20 ∨ tg h a0 = 30) ∧ ((ln h a0 : Int) ≤ 2147483648) ∧ (0 ≤ (a3 + 1)) ∧ ((a3 + 1) < ln h a0) ∧ (tg h 400 = 13) ∧ R 207 0 [.ref 400, .int (I (iv h a0 (a3 + 1)))] [] h (fun v h2 => R 208 1607 [.ref a0, .ref 0, .ref 400, .int (I a3)] (v :: [.int (I s0)]) h2 P)) : R 208 1598 [.ref a0, .ref 0, .ref 400, .int (I a3)] [.int (I s0)] h P := by
  refine R_aload_n (Dat dd_L_law 1174 rfl) rfl rfl ?_
  refine R_aload_n (Dat dd_L_law 1175 rfl) rfl rfl ?_
  refine R_iload_n (Dat dd_L_law 1176 rfl) rfl ?_
  refine R_iconst (Dat dd_L_law 1177 rfl) ?_
  refine R_iadd (Dat dd_L_law 1178 rfl) ?_
  obtain ⟨g1, T⟩ := T
  obtain ⟨g2, T⟩ := T
  obtain ⟨g3, T⟩ := T
  obtain ⟨g4, T⟩ := T
  refine R_iaload (Dat dd_L_law 1179 rfl) g1 g2 g3 g4 ?_
  obtain ⟨g5, T⟩ := T
  exact R_call1 (Dat dd_L_law 1180 rfl) rfl g5 rfl rfl rfl rfl rfl T
theorem t_L_law_256 {h : Hp} {P : Value → Hp → Prop} {a3 s0 s1 : Int} {a0 : Nat} (T : (rng s1) ∧ (rng s0) ∧ ((s1 = s0 → R 208 18 [.ref a0, .ref 0, .ref 400, .int (I (a3 + 7))] [] h P) ∧ (¬ s1 = s0 → P (.int (I 0)) h))) : R 208 256 [.ref a0, .ref 0, .ref 400, .int (I a3)] [.int (I s0), .int (I s1)] h P := by
  obtain ⟨g1, T⟩ := T
  obtain ⟨g2, T⟩ := T
  refine R_ic_eq (Dat dd_L_law 66 rfl) rfl g1 g2 (fun c => ?_) (fun c => ?_)
  · replace T := T.1 c
    refine R_iinc (Dat dd_L_law 1184 rfl) rfl rfl rfl ?_
    refine R_goto (Dat dd_L_law 1185 rfl) rfl ?_
    exact T
  · replace T := T.2 c
    refine R_iconst (Dat dd_L_law 67 rfl) ?_
    exact R_ireturn (Dat dd_L_law 68 rfl) rfl T
theorem t_L_law_289 {h : Hp} {P : Value → Hp → Prop} {a3 s0 s1 : Int} {a0 : Nat} (T : (rng s1) ∧ (rng s0) ∧ ((s1 = s0 → R 208 18 [.ref a0, .ref 0, .ref 400, .int (I (a3 + 7))] [] h P) ∧ (¬ s1 = s0 → P (.int (I 0)) h))) : R 208 289 [.ref a0, .ref 0, .ref 400, .int (I a3)] [.int (I s0), .int (I s1)] h P := by
  obtain ⟨g1, T⟩ := T
  obtain ⟨g2, T⟩ := T
  refine R_ic_eq (Dat dd_L_law 93 rfl) rfl g1 g2 (fun c => ?_) (fun c => ?_)
  · replace T := T.1 c
    refine R_iinc (Dat dd_L_law 1184 rfl) rfl rfl rfl ?_
    refine R_goto (Dat dd_L_law 1185 rfl) rfl ?_
    exact T
  · replace T := T.2 c
    refine R_iconst (Dat dd_L_law 94 rfl) ?_
    exact R_ireturn (Dat dd_L_law 95 rfl) rfl T
theorem t_L_law_312 {h : Hp} {P : Value → Hp → Prop} {a3 s0 s1 : Int} {a0 : Nat} (T : (rng s1) ∧ (rng s0) ∧ ((s1 = s0 → R 208 18 [.ref a0, .ref 0, .ref 400, .int (I (a3 + 7))] [] h P) ∧ (¬ s1 = s0 → P (.int (I 0)) h))) : R 208 312 [.ref a0, .ref 0, .ref 400, .int (I a3)] [.int (I s0), .int (I s1)] h P := by
  obtain ⟨g1, T⟩ := T
  obtain ⟨g2, T⟩ := T
  refine R_ic_eq (Dat dd_L_law 110 rfl) rfl g1 g2 (fun c => ?_) (fun c => ?_)
  · replace T := T.1 c
    refine R_iinc (Dat dd_L_law 1184 rfl) rfl rfl rfl ?_
    refine R_goto (Dat dd_L_law 1185 rfl) rfl ?_
    exact T
  · replace T := T.2 c
    refine R_iconst (Dat dd_L_law 111 rfl) ?_
    exact R_ireturn (Dat dd_L_law 112 rfl) rfl T
theorem t_L_law_325 {h : Hp} {P : Value → Hp → Prop} {a3 s0 s1 : Int} {a0 : Nat} (T : (rng s1) ∧ (rng s0) ∧ ((s1 = s0 → R 208 18 [.ref a0, .ref 0, .ref 400, .int (I (a3 + 7))] [] h P) ∧ (¬ s1 = s0 → P (.int (I 0)) h))) : R 208 325 [.ref a0, .ref 0, .ref 400, .int (I a3)] [.int (I s0), .int (I s1)] h P := by
  obtain ⟨g1, T⟩ := T
  obtain ⟨g2, T⟩ := T
  refine R_ic_eq (Dat dd_L_law 117 rfl) rfl g1 g2 (fun c => ?_) (fun c => ?_)
  · replace T := T.1 c
    refine R_iinc (Dat dd_L_law 1184 rfl) rfl rfl rfl ?_
    refine R_goto (Dat dd_L_law 1185 rfl) rfl ?_
    exact T
  · replace T := T.2 c
    refine R_iconst (Dat dd_L_law 118 rfl) ?_
    exact R_ireturn (Dat dd_L_law 119 rfl) rfl T
theorem t_L_law_348 {h : Hp} {P : Value → Hp → Prop} {a3 s0 s1 : Int} {a0 : Nat} (T : (rng s1) ∧ (rng s0) ∧ ((s1 = s0 → R 208 18 [.ref a0, .ref 0, .ref 400, .int (I (a3 + 7))] [] h P) ∧ (¬ s1 = s0 → P (.int (I 0)) h))) : R 208 348 [.ref a0, .ref 0, .ref 400, .int (I a3)] [.int (I s0), .int (I s1)] h P := by
  obtain ⟨g1, T⟩ := T
  obtain ⟨g2, T⟩ := T
  refine R_ic_eq (Dat dd_L_law 134 rfl) rfl g1 g2 (fun c => ?_) (fun c => ?_)
  · replace T := T.1 c
    refine R_iinc (Dat dd_L_law 1184 rfl) rfl rfl rfl ?_
    refine R_goto (Dat dd_L_law 1185 rfl) rfl ?_
    exact T
  · replace T := T.2 c
    refine R_iconst (Dat dd_L_law 135 rfl) ?_
    exact R_ireturn (Dat dd_L_law 136 rfl) rfl T
theorem t_L_law_381 {h : Hp} {P : Value → Hp → Prop} {a3 s0 s1 : Int} {a0 : Nat} (T : (rng s1) ∧ (rng s0) ∧ ((s1 = s0 → R 208 18 [.ref a0, .ref 0, .ref 400, .int (I (a3 + 7))] [] h P) ∧ (¬ s1 = s0 → P (.int (I 0)) h))) : R 208 381 [.ref a0, .ref 0, .ref 400, .int (I a3)] [.int (I s0), .int (I s1)] h P := by
  obtain ⟨g1, T⟩ := T
  obtain ⟨g2, T⟩ := T
  refine R_ic_eq (Dat dd_L_law 161 rfl) rfl g1 g2 (fun c => ?_) (fun c => ?_)
  · replace T := T.1 c
    refine R_iinc (Dat dd_L_law 1184 rfl) rfl rfl rfl ?_
    refine R_goto (Dat dd_L_law 1185 rfl) rfl ?_
    exact T
  · replace T := T.2 c
    refine R_iconst (Dat dd_L_law 162 rfl) ?_
    exact R_ireturn (Dat dd_L_law 163 rfl) rfl T
theorem t_L_law_434 {h : Hp} {P : Value → Hp → Prop} {a3 s0 s1 : Int} {a0 : Nat} (T : (rng s1) ∧ (rng s0) ∧ ((s1 = s0 → R 208 18 [.ref a0, .ref 0, .ref 400, .int (I (a3 + 7))] [] h P) ∧ (¬ s1 = s0 → P (.int (I 0)) h))) : R 208 434 [.ref a0, .ref 0, .ref 400, .int (I a3)] [.int (I s0), .int (I s1)] h P := by
  obtain ⟨g1, T⟩ := T
  obtain ⟨g2, T⟩ := T
  refine R_ic_eq (Dat dd_L_law 208 rfl) rfl g1 g2 (fun c => ?_) (fun c => ?_)
  · replace T := T.1 c
    refine R_iinc (Dat dd_L_law 1184 rfl) rfl rfl rfl ?_
    refine R_goto (Dat dd_L_law 1185 rfl) rfl ?_
    exact T
  · replace T := T.2 c
    refine R_iconst (Dat dd_L_law 209 rfl) ?_
    exact R_ireturn (Dat dd_L_law 210 rfl) rfl T
theorem t_L_law_477 {h : Hp} {P : Value → Hp → Prop} {a3 s0 s1 : Int} {a0 : Nat} (T : (rng s1) ∧ (rng s0) ∧ ((s1 = s0 → R 208 18 [.ref a0, .ref 0, .ref 400, .int (I (a3 + 7))] [] h P) ∧ (¬ s1 = s0 → P (.int (I 0)) h))) : R 208 477 [.ref a0, .ref 0, .ref 400, .int (I a3)] [.int (I s0), .int (I s1)] h P := by
  obtain ⟨g1, T⟩ := T
  obtain ⟨g2, T⟩ := T
  refine R_ic_eq (Dat dd_L_law 245 rfl) rfl g1 g2 (fun c => ?_) (fun c => ?_)
  · replace T := T.1 c
    refine R_iinc (Dat dd_L_law 1184 rfl) rfl rfl rfl ?_
    refine R_goto (Dat dd_L_law 1185 rfl) rfl ?_
    exact T
  · replace T := T.2 c
    refine R_iconst (Dat dd_L_law 246 rfl) ?_
    exact R_ireturn (Dat dd_L_law 247 rfl) rfl T
theorem t_L_law_500 {h : Hp} {P : Value → Hp → Prop} {a3 s0 s1 : Int} {a0 : Nat} (T : (rng s1) ∧ (rng s0) ∧ ((s1 = s0 → R 208 18 [.ref a0, .ref 0, .ref 400, .int (I (a3 + 7))] [] h P) ∧ (¬ s1 = s0 → P (.int (I 0)) h))) : R 208 500 [.ref a0, .ref 0, .ref 400, .int (I a3)] [.int (I s0), .int (I s1)] h P := by
  obtain ⟨g1, T⟩ := T
  obtain ⟨g2, T⟩ := T
  refine R_ic_eq (Dat dd_L_law 262 rfl) rfl g1 g2 (fun c => ?_) (fun c => ?_)
  · replace T := T.1 c
    refine R_iinc (Dat dd_L_law 1184 rfl) rfl rfl rfl ?_
    refine R_goto (Dat dd_L_law 1185 rfl) rfl ?_
    exact T
  · replace T := T.2 c
    refine R_iconst (Dat dd_L_law 263 rfl) ?_
    exact R_ireturn (Dat dd_L_law 264 rfl) rfl T
theorem t_L_law_553 {h : Hp} {P : Value → Hp → Prop} {a3 s0 s1 : Int} {a0 : Nat} (T : (rng s1) ∧ (rng s0) ∧ ((s1 = s0 → R 208 18 [.ref a0, .ref 0, .ref 400, .int (I (a3 + 7))] [] h P) ∧ (¬ s1 = s0 → P (.int (I 0)) h))) : R 208 553 [.ref a0, .ref 0, .ref 400, .int (I a3)] [.int (I s0), .int (I s1)] h P := by
  obtain ⟨g1, T⟩ := T
  obtain ⟨g2, T⟩ := T
  refine R_ic_eq (Dat dd_L_law 309 rfl) rfl g1 g2 (fun c => ?_) (fun c => ?_)
  · replace T := T.1 c
    refine R_iinc (Dat dd_L_law 1184 rfl) rfl rfl rfl ?_
    refine R_goto (Dat dd_L_law 1185 rfl) rfl ?_
    exact T
  · replace T := T.2 c
    refine R_iconst (Dat dd_L_law 310 rfl) ?_
    exact R_ireturn (Dat dd_L_law 311 rfl) rfl T
theorem t_L_law_586 {h : Hp} {P : Value → Hp → Prop} {a3 s0 s1 : Int} {a0 : Nat} (T : (rng s1) ∧ (rng s0) ∧ ((s1 = s0 → R 208 18 [.ref a0, .ref 0, .ref 400, .int (I (a3 + 7))] [] h P) ∧ (¬ s1 = s0 → P (.int (I 0)) h))) : R 208 586 [.ref a0, .ref 0, .ref 400, .int (I a3)] [.int (I s0), .int (I s1)] h P := by
  obtain ⟨g1, T⟩ := T
  obtain ⟨g2, T⟩ := T
  refine R_ic_eq (Dat dd_L_law 336 rfl) rfl g1 g2 (fun c => ?_) (fun c => ?_)
  · replace T := T.1 c
    refine R_iinc (Dat dd_L_law 1184 rfl) rfl rfl rfl ?_
    refine R_goto (Dat dd_L_law 1185 rfl) rfl ?_
    exact T
  · replace T := T.2 c
    refine R_iconst (Dat dd_L_law 337 rfl) ?_
    exact R_ireturn (Dat dd_L_law 338 rfl) rfl T
theorem t_L_law_639 {h : Hp} {P : Value → Hp → Prop} {a3 s0 s1 : Int} {a0 : Nat} (T : (rng s1) ∧ (rng s0) ∧ ((s1 = s0 → R 208 18 [.ref a0, .ref 0, .ref 400, .int (I (a3 + 7))] [] h P) ∧ (¬ s1 = s0 → P (.int (I 0)) h))) : R 208 639 [.ref a0, .ref 0, .ref 400, .int (I a3)] [.int (I s0), .int (I s1)] h P := by
  obtain ⟨g1, T⟩ := T
  obtain ⟨g2, T⟩ := T
  refine R_ic_eq (Dat dd_L_law 383 rfl) rfl g1 g2 (fun c => ?_) (fun c => ?_)
  · replace T := T.1 c
    refine R_iinc (Dat dd_L_law 1184 rfl) rfl rfl rfl ?_
    refine R_goto (Dat dd_L_law 1185 rfl) rfl ?_
    exact T
  · replace T := T.2 c
    refine R_iconst (Dat dd_L_law 384 rfl) ?_
    exact R_ireturn (Dat dd_L_law 385 rfl) rfl T
theorem t_L_law_652 {h : Hp} {P : Value → Hp → Prop} {a3 s0 s1 : Int} {a0 : Nat} (T : (rng s1) ∧ (rng s0) ∧ ((s1 = s0 → R 208 18 [.ref a0, .ref 0, .ref 400, .int (I (a3 + 7))] [] h P) ∧ (¬ s1 = s0 → P (.int (I 0)) h))) : R 208 652 [.ref a0, .ref 0, .ref 400, .int (I a3)] [.int (I s0), .int (I s1)] h P := by
  obtain ⟨g1, T⟩ := T
  obtain ⟨g2, T⟩ := T
  refine R_ic_eq (Dat dd_L_law 390 rfl) rfl g1 g2 (fun c => ?_) (fun c => ?_)
  · replace T := T.1 c
    refine R_iinc (Dat dd_L_law 1184 rfl) rfl rfl rfl ?_
    refine R_goto (Dat dd_L_law 1185 rfl) rfl ?_
    exact T
  · replace T := T.2 c
    refine R_iconst (Dat dd_L_law 391 rfl) ?_
    exact R_ireturn (Dat dd_L_law 392 rfl) rfl T
theorem t_L_law_665 {h : Hp} {P : Value → Hp → Prop} {a3 s0 s1 : Int} {a0 : Nat} (T : (rng s1) ∧ (rng s0) ∧ ((s1 = s0 → R 208 18 [.ref a0, .ref 0, .ref 400, .int (I (a3 + 7))] [] h P) ∧ (¬ s1 = s0 → P (.int (I 0)) h))) : R 208 665 [.ref a0, .ref 0, .ref 400, .int (I a3)] [.int (I s0), .int (I s1)] h P := by
  obtain ⟨g1, T⟩ := T
  obtain ⟨g2, T⟩ := T
  refine R_ic_eq (Dat dd_L_law 397 rfl) rfl g1 g2 (fun c => ?_) (fun c => ?_)
  · replace T := T.1 c
    refine R_iinc (Dat dd_L_law 1184 rfl) rfl rfl rfl ?_
    refine R_goto (Dat dd_L_law 1185 rfl) rfl ?_
    exact T
  · replace T := T.2 c
    refine R_iconst (Dat dd_L_law 398 rfl) ?_
    exact R_ireturn (Dat dd_L_law 399 rfl) rfl T
theorem t_L_law_698 {h : Hp} {P : Value → Hp → Prop} {a3 s0 s1 : Int} {a0 : Nat} (T : (rng s1) ∧ (rng s0) ∧ ((s1 = s0 → R 208 18 [.ref a0, .ref 0, .ref 400, .int (I (a3 + 7))] [] h P) ∧ (¬ s1 = s0 → P (.int (I 0)) h))) : R 208 698 [.ref a0, .ref 0, .ref 400, .int (I a3)] [.int (I s0), .int (I s1)] h P := by
  obtain ⟨g1, T⟩ := T
  obtain ⟨g2, T⟩ := T
  refine R_ic_eq (Dat dd_L_law 424 rfl) rfl g1 g2 (fun c => ?_) (fun c => ?_)
  · replace T := T.1 c
    refine R_iinc (Dat dd_L_law 1184 rfl) rfl rfl rfl ?_
    refine R_goto (Dat dd_L_law 1185 rfl) rfl ?_
    exact T
  · replace T := T.2 c
    refine R_iconst (Dat dd_L_law 425 rfl) ?_
    exact R_ireturn (Dat dd_L_law 426 rfl) rfl T
theorem t_L_law_741 {h : Hp} {P : Value → Hp → Prop} {a3 s0 s1 : Int} {a0 : Nat} (T : (rng s1) ∧ (rng s0) ∧ ((s1 = s0 → R 208 18 [.ref a0, .ref 0, .ref 400, .int (I (a3 + 7))] [] h P) ∧ (¬ s1 = s0 → P (.int (I 0)) h))) : R 208 741 [.ref a0, .ref 0, .ref 400, .int (I a3)] [.int (I s0), .int (I s1)] h P := by
  obtain ⟨g1, T⟩ := T
  obtain ⟨g2, T⟩ := T
  refine R_ic_eq (Dat dd_L_law 461 rfl) rfl g1 g2 (fun c => ?_) (fun c => ?_)
  · replace T := T.1 c
    refine R_iinc (Dat dd_L_law 1184 rfl) rfl rfl rfl ?_
    refine R_goto (Dat dd_L_law 1185 rfl) rfl ?_
    exact T
  · replace T := T.2 c
    refine R_iconst (Dat dd_L_law 462 rfl) ?_
    exact R_ireturn (Dat dd_L_law 463 rfl) rfl T
theorem t_L_law_784 {h : Hp} {P : Value → Hp → Prop} {a3 s0 s1 : Int} {a0 : Nat} (T : (rng s1) ∧ (rng s0) ∧ ((s1 = s0 → R 208 18 [.ref a0, .ref 0, .ref 400, .int (I (a3 + 7))] [] h P) ∧ (¬ s1 = s0 → P (.int (I 0)) h))) : R 208 784 [.ref a0, .ref 0, .ref 400, .int (I a3)] [.int (I s0), .int (I s1)] h P := by
  obtain ⟨g1, T⟩ := T
  obtain ⟨g2, T⟩ := T
  refine R_ic_eq (Dat dd_L_law 498 rfl) rfl g1 g2 (fun c => ?_) (fun c => ?_)
  · replace T := T.1 c
    refine R_iinc (Dat dd_L_law 1184 rfl) rfl rfl rfl ?_
    refine R_goto (Dat dd_L_law 1185 rfl) rfl ?_
    exact T
  · replace T := T.2 c
    refine R_iconst (Dat dd_L_law 499 rfl) ?_
    exact R_ireturn (Dat dd_L_law 500 rfl) rfl T
theorem t_L_law_827 {h : Hp} {P : Value → Hp → Prop} {a3 s0 s1 : Int} {a0 : Nat} (T : (rng s1) ∧ (rng s0) ∧ ((s1 = s0 → R 208 18 [.ref a0, .ref 0, .ref 400, .int (I (a3 + 7))] [] h P) ∧ (¬ s1 = s0 → P (.int (I 0)) h))) : R 208 827 [.ref a0, .ref 0, .ref 400, .int (I a3)] [.int (I s0), .int (I s1)] h P := by
  obtain ⟨g1, T⟩ := T
  obtain ⟨g2, T⟩ := T
  refine R_ic_eq (Dat dd_L_law 535 rfl) rfl g1 g2 (fun c => ?_) (fun c => ?_)
  · replace T := T.1 c
    refine R_iinc (Dat dd_L_law 1184 rfl) rfl rfl rfl ?_
    refine R_goto (Dat dd_L_law 1185 rfl) rfl ?_
    exact T
  · replace T := T.2 c
    refine R_iconst (Dat dd_L_law 536 rfl) ?_
    exact R_ireturn (Dat dd_L_law 537 rfl) rfl T
theorem t_L_law_860 {h : Hp} {P : Value → Hp → Prop} {a3 s0 s1 : Int} {a0 : Nat} (T : (rng s1) ∧ (rng s0) ∧ ((s1 = s0 → R 208 18 [.ref a0, .ref 0, .ref 400, .int (I (a3 + 7))] [] h P) ∧ (¬ s1 = s0 → P (.int (I 0)) h))) : R 208 860 [.ref a0, .ref 0, .ref 400, .int (I a3)] [.int (I s0), .int (I s1)] h P := by
  obtain ⟨g1, T⟩ := T
  obtain ⟨g2, T⟩ := T
  refine R_ic_eq (Dat dd_L_law 562 rfl) rfl g1 g2 (fun c => ?_) (fun c => ?_)
  · replace T := T.1 c
    refine R_iinc (Dat dd_L_law 1184 rfl) rfl rfl rfl ?_
    refine R_goto (Dat dd_L_law 1185 rfl) rfl ?_
    exact T
  · replace T := T.2 c
    refine R_iconst (Dat dd_L_law 563 rfl) ?_
    exact R_ireturn (Dat dd_L_law 564 rfl) rfl T
theorem t_L_law_903 {h : Hp} {P : Value → Hp → Prop} {a3 s0 s1 : Int} {a0 : Nat} (T : (rng s1) ∧ (rng s0) ∧ ((s1 = s0 → R 208 18 [.ref a0, .ref 0, .ref 400, .int (I (a3 + 7))] [] h P) ∧ (¬ s1 = s0 → P (.int (I 0)) h))) : R 208 903 [.ref a0, .ref 0, .ref 400, .int (I a3)] [.int (I s0), .int (I s1)] h P := by
  obtain ⟨g1, T⟩ := T
  obtain ⟨g2, T⟩ := T
  refine R_ic_eq (Dat dd_L_law 599 rfl) rfl g1 g2 (fun c => ?_) (fun c => ?_)
  · replace T := T.1 c
    refine R_iinc (Dat dd_L_law 1184 rfl) rfl rfl rfl ?_
    refine R_goto (Dat dd_L_law 1185 rfl) rfl ?_
    exact T
  · replace T := T.2 c
    refine R_iconst (Dat dd_L_law 600 rfl) ?_
    exact R_ireturn (Dat dd_L_law 601 rfl) rfl T
theorem t_L_law_946 {h : Hp} {P : Value → Hp → Prop} {a3 s0 s1 : Int} {a0 : Nat} (T : (rng s1) ∧ (rng s0) ∧ ((s1 = s0 → R 208 18 [.ref a0, .ref 0, .ref 400, .int (I (a3 + 7))] [] h P) ∧ (¬ s1 = s0 → P (.int (I 0)) h))) : R 208 946 [.ref a0, .ref 0, .ref 400, .int (I a3)] [.int (I s0), .int (I s1)] h P := by
  obtain ⟨g1, T⟩ := T
  obtain ⟨g2, T⟩ := T
  refine R_ic_eq (Dat dd_L_law 636 rfl) rfl g1 g2 (fun c => ?_) (fun c => ?_)
  · replace T := T.1 c
    refine R_iinc (Dat dd_L_law 1184 rfl) rfl rfl rfl ?_
    refine R_goto (Dat dd_L_law 1185 rfl) rfl ?_
    exact T
  · replace T := T.2 c
    refine R_iconst (Dat dd_L_law 637 rfl) ?_
    exact R_ireturn (Dat dd_L_law 638 rfl) rfl T
theorem t_L_law_989 {h : Hp} {P : Value → Hp → Prop} {a3 s0 s1 : Int} {a0 : Nat} (T : (rng s1) ∧ (rng s0) ∧ ((s1 = s0 → R 208 18 [.ref a0, .ref 0, .ref 400, .int (I (a3 + 7))] [] h P) ∧ (¬ s1 = s0 → P (.int (I 0)) h))) : R 208 989 [.ref a0, .ref 0, .ref 400, .int (I a3)] [.int (I s0), .int (I s1)] h P := by
  obtain ⟨g1, T⟩ := T
  obtain ⟨g2, T⟩ := T
  refine R_ic_eq (Dat dd_L_law 673 rfl) rfl g1 g2 (fun c => ?_) (fun c => ?_)
  · replace T := T.1 c
    refine R_iinc (Dat dd_L_law 1184 rfl) rfl rfl rfl ?_
    refine R_goto (Dat dd_L_law 1185 rfl) rfl ?_
    exact T
  · replace T := T.2 c
    refine R_iconst (Dat dd_L_law 674 rfl) ?_
    exact R_ireturn (Dat dd_L_law 675 rfl) rfl T
theorem t_L_law_1012 {h : Hp} {P : Value → Hp → Prop} {a3 s0 s1 : Int} {a0 : Nat} (T : (rng s1) ∧ (rng s0) ∧ ((s1 = s0 → R 208 18 [.ref a0, .ref 0, .ref 400, .int (I (a3 + 7))] [] h P) ∧ (¬ s1 = s0 → P (.int (I 0)) h))) : R 208 1012 [.ref a0, .ref 0, .ref 400, .int (I a3)] [.int (I s0), .int (I s1)] h P := by
  obtain ⟨g1, T⟩ := T
  obtain ⟨g2, T⟩ := T
  refine R_ic_eq (Dat dd_L_law 690 rfl) rfl g1 g2 (fun c => ?_) (fun c => ?_)
  · replace T := T.1 c
    refine R_iinc (Dat dd_L_law 1184 rfl) rfl rfl rfl ?_
    refine R_goto (Dat dd_L_law 1185 rfl) rfl ?_
    exact T
  · replace T := T.2 c
    refine R_iconst (Dat dd_L_law 691 rfl) ?_
    exact R_ireturn (Dat dd_L_law 692 rfl) rfl T
theorem t_L_law_1065 {h : Hp} {P : Value → Hp → Prop} {a3 s0 s1 : Int} {a0 : Nat} (T : (rng (lcp s1 s0)) ∧ (((lcp s1 s0) = 0 → R 208 18 [.ref a0, .ref 0, .ref 400, .int (I (a3 + 7))] [] h P) ∧ (¬ (lcp s1 s0) = 0 → P (.int (I 0)) h))) : R 208 1065 [.ref a0, .ref 0, .ref 400, .int (I a3)] [.long (J s0), .long (J s1)] h P := by
  refine R_lcmp (Dat dd_L_law 737 rfl) ?_
  obtain ⟨g1, T⟩ := T
  refine R_if_eq (Dat dd_L_law 738 rfl) rfl g1  (fun c => ?_) (fun c => ?_)
  · replace T := T.1 c
    refine R_iinc (Dat dd_L_law 1184 rfl) rfl rfl rfl ?_
    refine R_goto (Dat dd_L_law 1185 rfl) rfl ?_
    exact T
  · replace T := T.2 c
    refine R_iconst (Dat dd_L_law 739 rfl) ?_
    exact R_ireturn (Dat dd_L_law 740 rfl) rfl T
theorem t_L_law_1099 {h : Hp} {P : Value → Hp → Prop} {a3 s0 s1 : Int} {a0 : Nat} (T : (rng s1) ∧ (rng s0) ∧ ((s1 = s0 → R 208 18 [.ref a0, .ref 0, .ref 400, .int (I (a3 + 7))] [] h P) ∧ (¬ s1 = s0 → P (.int (I 0)) h))) : R 208 1099 [.ref a0, .ref 0, .ref 400, .int (I a3)] [.int (I s0), .int (I s1)] h P := by
  obtain ⟨g1, T⟩ := T
  obtain ⟨g2, T⟩ := T
  refine R_ic_eq (Dat dd_L_law 765 rfl) rfl g1 g2 (fun c => ?_) (fun c => ?_)
  · replace T := T.1 c
    refine R_iinc (Dat dd_L_law 1184 rfl) rfl rfl rfl ?_
    refine R_goto (Dat dd_L_law 1185 rfl) rfl ?_
    exact T
  · replace T := T.2 c
    refine R_iconst (Dat dd_L_law 766 rfl) ?_
    exact R_ireturn (Dat dd_L_law 767 rfl) rfl T
theorem t_L_law_1122 {h : Hp} {P : Value → Hp → Prop} {a3 s0 s1 : Int} {a0 : Nat} (T : (rng s1) ∧ (rng s0) ∧ ((s1 = s0 → R 208 18 [.ref a0, .ref 0, .ref 400, .int (I (a3 + 7))] [] h P) ∧ (¬ s1 = s0 → P (.int (I 0)) h))) : R 208 1122 [.ref a0, .ref 0, .ref 400, .int (I a3)] [.int (I s0), .int (I s1)] h P := by
  obtain ⟨g1, T⟩ := T
  obtain ⟨g2, T⟩ := T
  refine R_ic_eq (Dat dd_L_law 782 rfl) rfl g1 g2 (fun c => ?_) (fun c => ?_)
  · replace T := T.1 c
    refine R_iinc (Dat dd_L_law 1184 rfl) rfl rfl rfl ?_
    refine R_goto (Dat dd_L_law 1185 rfl) rfl ?_
    exact T
  · replace T := T.2 c
    refine R_iconst (Dat dd_L_law 783 rfl) ?_
    exact R_ireturn (Dat dd_L_law 784 rfl) rfl T
theorem t_L_law_1155 {h : Hp} {P : Value → Hp → Prop} {a3 s0 s1 : Int} {a0 : Nat} (T : (rng s1) ∧ (rng s0) ∧ ((s1 = s0 → R 208 18 [.ref a0, .ref 0, .ref 400, .int (I (a3 + 7))] [] h P) ∧ (¬ s1 = s0 → P (.int (I 0)) h))) : R 208 1155 [.ref a0, .ref 0, .ref 400, .int (I a3)] [.int (I s0), .int (I s1)] h P := by
  obtain ⟨g1, T⟩ := T
  obtain ⟨g2, T⟩ := T
  refine R_ic_eq (Dat dd_L_law 809 rfl) rfl g1 g2 (fun c => ?_) (fun c => ?_)
  · replace T := T.1 c
    refine R_iinc (Dat dd_L_law 1184 rfl) rfl rfl rfl ?_
    refine R_goto (Dat dd_L_law 1185 rfl) rfl ?_
    exact T
  · replace T := T.2 c
    refine R_iconst (Dat dd_L_law 810 rfl) ?_
    exact R_ireturn (Dat dd_L_law 811 rfl) rfl T
theorem t_L_law_1230 {h : Hp} {P : Value → Hp → Prop} {a3 s0 s1 : Int} {a0 : Nat} (T : (rng s1) ∧ (rng s0) ∧ ((s1 = s0 → R 208 18 [.ref a0, .ref 0, .ref 400, .int (I (a3 + 7))] [] h P) ∧ (¬ s1 = s0 → P (.int (I 0)) h))) : R 208 1230 [.ref a0, .ref 0, .ref 400, .int (I a3)] [.int (I s0), .int (I s1)] h P := by
  obtain ⟨g1, T⟩ := T
  obtain ⟨g2, T⟩ := T
  refine R_ic_eq (Dat dd_L_law 876 rfl) rfl g1 g2 (fun c => ?_) (fun c => ?_)
  · replace T := T.1 c
    refine R_iinc (Dat dd_L_law 1184 rfl) rfl rfl rfl ?_
    refine R_goto (Dat dd_L_law 1185 rfl) rfl ?_
    exact T
  · replace T := T.2 c
    refine R_iconst (Dat dd_L_law 877 rfl) ?_
    exact R_ireturn (Dat dd_L_law 878 rfl) rfl T
theorem t_L_law_1263 {h : Hp} {P : Value → Hp → Prop} {a3 s0 s1 : Int} {a0 : Nat} (T : (rng s1) ∧ (rng s0) ∧ ((s1 = s0 → R 208 18 [.ref a0, .ref 0, .ref 400, .int (I (a3 + 7))] [] h P) ∧ (¬ s1 = s0 → P (.int (I 0)) h))) : R 208 1263 [.ref a0, .ref 0, .ref 400, .int (I a3)] [.int (I s0), .int (I s1)] h P := by
  obtain ⟨g1, T⟩ := T
  obtain ⟨g2, T⟩ := T
  refine R_ic_eq (Dat dd_L_law 903 rfl) rfl g1 g2 (fun c => ?_) (fun c => ?_)
  · replace T := T.1 c
    refine R_iinc (Dat dd_L_law 1184 rfl) rfl rfl rfl ?_
    refine R_goto (Dat dd_L_law 1185 rfl) rfl ?_
    exact T
  · replace T := T.2 c
    refine R_iconst (Dat dd_L_law 904 rfl) ?_
    exact R_ireturn (Dat dd_L_law 905 rfl) rfl T
theorem t_L_law_1306 {h : Hp} {P : Value → Hp → Prop} {a3 s0 s1 : Int} {a0 : Nat} (T : (rng s1) ∧ (rng s0) ∧ ((s1 = s0 → R 208 18 [.ref a0, .ref 0, .ref 400, .int (I (a3 + 7))] [] h P) ∧ (¬ s1 = s0 → P (.int (I 0)) h))) : R 208 1306 [.ref a0, .ref 0, .ref 400, .int (I a3)] [.int (I s0), .int (I s1)] h P := by
  obtain ⟨g1, T⟩ := T
  obtain ⟨g2, T⟩ := T
  refine R_ic_eq (Dat dd_L_law 940 rfl) rfl g1 g2 (fun c => ?_) (fun c => ?_)
  · replace T := T.1 c
    refine R_iinc (Dat dd_L_law 1184 rfl) rfl rfl rfl ?_
    refine R_goto (Dat dd_L_law 1185 rfl) rfl ?_
    exact T
  · replace T := T.2 c
    refine R_iconst (Dat dd_L_law 941 rfl) ?_
    exact R_ireturn (Dat dd_L_law 942 rfl) rfl T
theorem t_L_law_1329 {h : Hp} {P : Value → Hp → Prop} {a3 s0 s1 : Int} {a0 : Nat} (T : (rng s1) ∧ (rng s0) ∧ ((s1 = s0 → R 208 18 [.ref a0, .ref 0, .ref 400, .int (I (a3 + 7))] [] h P) ∧ (¬ s1 = s0 → P (.int (I 0)) h))) : R 208 1329 [.ref a0, .ref 0, .ref 400, .int (I a3)] [.int (I s0), .int (I s1)] h P := by
  obtain ⟨g1, T⟩ := T
  obtain ⟨g2, T⟩ := T
  refine R_ic_eq (Dat dd_L_law 957 rfl) rfl g1 g2 (fun c => ?_) (fun c => ?_)
  · replace T := T.1 c
    refine R_iinc (Dat dd_L_law 1184 rfl) rfl rfl rfl ?_
    refine R_goto (Dat dd_L_law 1185 rfl) rfl ?_
    exact T
  · replace T := T.2 c
    refine R_iconst (Dat dd_L_law 958 rfl) ?_
    exact R_ireturn (Dat dd_L_law 959 rfl) rfl T
theorem t_L_law_1372 {h : Hp} {P : Value → Hp → Prop} {a3 s0 s1 : Int} {a0 : Nat} (T : (rng s1) ∧ (rng s0) ∧ ((s1 = s0 → R 208 18 [.ref a0, .ref 0, .ref 400, .int (I (a3 + 7))] [] h P) ∧ (¬ s1 = s0 → P (.int (I 0)) h))) : R 208 1372 [.ref a0, .ref 0, .ref 400, .int (I a3)] [.int (I s0), .int (I s1)] h P := by
  obtain ⟨g1, T⟩ := T
  obtain ⟨g2, T⟩ := T
  refine R_ic_eq (Dat dd_L_law 994 rfl) rfl g1 g2 (fun c => ?_) (fun c => ?_)
  · replace T := T.1 c
    refine R_iinc (Dat dd_L_law 1184 rfl) rfl rfl rfl ?_
    refine R_goto (Dat dd_L_law 1185 rfl) rfl ?_
    exact T
  · replace T := T.2 c
    refine R_iconst (Dat dd_L_law 995 rfl) ?_
    exact R_ireturn (Dat dd_L_law 996 rfl) rfl T
theorem t_L_law_1415 {h : Hp} {P : Value → Hp → Prop} {a3 s0 s1 : Int} {a0 : Nat} (T : (rng (lcp s1 s0)) ∧ (((lcp s1 s0) = 0 → R 208 18 [.ref a0, .ref 0, .ref 400, .int (I (a3 + 7))] [] h P) ∧ (¬ (lcp s1 s0) = 0 → P (.int (I 0)) h))) : R 208 1415 [.ref a0, .ref 0, .ref 400, .int (I a3)] [.long (J s0), .long (J s1)] h P := by
  refine R_lcmp (Dat dd_L_law 1031 rfl) ?_
  obtain ⟨g1, T⟩ := T
  refine R_if_eq (Dat dd_L_law 1032 rfl) rfl g1  (fun c => ?_) (fun c => ?_)
  · replace T := T.1 c
    refine R_iinc (Dat dd_L_law 1184 rfl) rfl rfl rfl ?_
    refine R_goto (Dat dd_L_law 1185 rfl) rfl ?_
    exact T
  · replace T := T.2 c
    refine R_iconst (Dat dd_L_law 1033 rfl) ?_
    exact R_ireturn (Dat dd_L_law 1034 rfl) rfl T
theorem t_L_law_1479 {h : Hp} {P : Value → Hp → Prop} {a3 s0 s1 : Int} {a0 : Nat} (T : (rng s1) ∧ (rng s0) ∧ ((s1 = s0 → R 208 18 [.ref a0, .ref 0, .ref 400, .int (I (a3 + 7))] [] h P) ∧ (¬ s1 = s0 → P (.int (I 0)) h))) : R 208 1479 [.ref a0, .ref 0, .ref 400, .int (I a3)] [.int (I s0), .int (I s1)] h P := by
  obtain ⟨g1, T⟩ := T
  obtain ⟨g2, T⟩ := T
  refine R_ic_eq (Dat dd_L_law 1089 rfl) rfl g1 g2 (fun c => ?_) (fun c => ?_)
  · replace T := T.1 c
    refine R_iinc (Dat dd_L_law 1184 rfl) rfl rfl rfl ?_
    refine R_goto (Dat dd_L_law 1185 rfl) rfl ?_
    exact T
  · replace T := T.2 c
    refine R_iconst (Dat dd_L_law 1090 rfl) ?_
    exact R_ireturn (Dat dd_L_law 1091 rfl) rfl T
theorem t_L_law_1502 {h : Hp} {P : Value → Hp → Prop} {a3 s0 s1 : Int} {a0 : Nat} (T : (rng s1) ∧ (rng s0) ∧ ((s1 = s0 → R 208 18 [.ref a0, .ref 0, .ref 400, .int (I (a3 + 7))] [] h P) ∧ (¬ s1 = s0 → P (.int (I 0)) h))) : R 208 1502 [.ref a0, .ref 0, .ref 400, .int (I a3)] [.int (I s0), .int (I s1)] h P := by
  obtain ⟨g1, T⟩ := T
  obtain ⟨g2, T⟩ := T
  refine R_ic_eq (Dat dd_L_law 1106 rfl) rfl g1 g2 (fun c => ?_) (fun c => ?_)
  · replace T := T.1 c
    refine R_iinc (Dat dd_L_law 1184 rfl) rfl rfl rfl ?_
    refine R_goto (Dat dd_L_law 1185 rfl) rfl ?_
    exact T
  · replace T := T.2 c
    refine R_iconst (Dat dd_L_law 1107 rfl) ?_
    exact R_ireturn (Dat dd_L_law 1108 rfl) rfl T
theorem t_L_law_1525 {h : Hp} {P : Value → Hp → Prop} {a3 s0 s1 : Int} {a0 : Nat} (T : (rng s1) ∧ (rng s0) ∧ ((s1 = s0 → R 208 18 [.ref a0, .ref 0, .ref 400, .int (I (a3 + 7))] [] h P) ∧ (¬ s1 = s0 → P (.int (I 0)) h))) : R 208 1525 [.ref a0, .ref 0, .ref 400, .int (I a3)] [.int (I s0), .int (I s1)] h P := by
  obtain ⟨g1, T⟩ := T
  obtain ⟨g2, T⟩ := T
  refine R_ic_eq (Dat dd_L_law 1123 rfl) rfl g1 g2 (fun c => ?_) (fun c => ?_)
  · replace T := T.1 c
    refine R_iinc (Dat dd_L_law 1184 rfl) rfl rfl rfl ?_
    refine R_goto (Dat dd_L_law 1185 rfl) rfl ?_
    exact T
  · replace T := T.2 c
    refine R_iconst (Dat dd_L_law 1124 rfl) ?_
    exact R_ireturn (Dat dd_L_law 1125 rfl) rfl T
theorem t_L_law_1558 {h : Hp} {P : Value → Hp → Prop} {a3 s0 s1 : Int} {a0 : Nat} (T : (rng s1) ∧ (rng s0) ∧ ((s1 = s0 → R 208 18 [.ref a0, .ref 0, .ref 400, .int (I (a3 + 7))] [] h P) ∧ (¬ s1 = s0 → P (.int (I 0)) h))) : R 208 1558 [.ref a0, .ref 0, .ref 400, .int (I a3)] [.int (I s0), .int (I s1)] h P := by
  obtain ⟨g1, T⟩ := T
  obtain ⟨g2, T⟩ := T
  refine R_ic_eq (Dat dd_L_law 1150 rfl) rfl g1 g2 (fun c => ?_) (fun c => ?_)
  · replace T := T.1 c
    refine R_iinc (Dat dd_L_law 1184 rfl) rfl rfl rfl ?_
    refine R_goto (Dat dd_L_law 1185 rfl) rfl ?_
    exact T
  · replace T := T.2 c
    refine R_iconst (Dat dd_L_law 1151 rfl) ?_
    exact R_ireturn (Dat dd_L_law 1152 rfl) rfl T
theorem t_L_law_1571 {h : Hp} {P : Value → Hp → Prop} {a3 s0 s1 : Int} {a0 : Nat} (T : (rng s1) ∧ (rng s0) ∧ ((s1 = s0 → R 208 18 [.ref a0, .ref 0, .ref 400, .int (I (a3 + 7))] [] h P) ∧ (¬ s1 = s0 → P (.int (I 0)) h))) : R 208 1571 [.ref a0, .ref 0, .ref 400, .int (I a3)] [.int (I s0), .int (I s1)] h P := by
  obtain ⟨g1, T⟩ := T
  obtain ⟨g2, T⟩ := T
  refine R_ic_eq (Dat dd_L_law 1157 rfl) rfl g1 g2 (fun c => ?_) (fun c => ?_)
  · replace T := T.1 c
    refine R_iinc (Dat dd_L_law 1184 rfl) rfl rfl rfl ?_
    refine R_goto (Dat dd_L_law 1185 rfl) rfl ?_
    exact T
  · replace T := T.2 c
    refine R_iconst (Dat dd_L_law 1158 rfl) ?_
    exact R_ireturn (Dat dd_L_law 1159 rfl) rfl T
theorem t_L_law_1584 {h : Hp} {P : Value → Hp → Prop} {a3 s0 s1 : Int} {a0 : Nat} (T : (rng s1) ∧ (rng s0) ∧ ((s1 = s0 → R 208 18 [.ref a0, .ref 0, .ref 400, .int (I (a3 + 7))] [] h P) ∧ (¬ s1 = s0 → P (.int (I 0)) h))) : R 208 1584 [.ref a0, .ref 0, .ref 400, .int (I a3)] [.int (I s0), .int (I s1)] h P := by
  obtain ⟨g1, T⟩ := T
  obtain ⟨g2, T⟩ := T
  refine R_ic_eq (Dat dd_L_law 1164 rfl) rfl g1 g2 (fun c => ?_) (fun c => ?_)
  · replace T := T.1 c
    refine R_iinc (Dat dd_L_law 1184 rfl) rfl rfl rfl ?_
    refine R_goto (Dat dd_L_law 1185 rfl) rfl ?_
    exact T
  · replace T := T.2 c
    refine R_iconst (Dat dd_L_law 1165 rfl) ?_
    exact R_ireturn (Dat dd_L_law 1166 rfl) rfl T
theorem t_L_law_1607 {h : Hp} {P : Value → Hp → Prop} {a3 s0 s1 : Int} {a0 : Nat} (T : (rng s1) ∧ (rng s0) ∧ ((s1 = s0 → R 208 18 [.ref a0, .ref 0, .ref 400, .int (I (a3 + 7))] [] h P) ∧ (¬ s1 = s0 → P (.int (I 0)) h))) : R 208 1607 [.ref a0, .ref 0, .ref 400, .int (I a3)] [.int (I s0), .int (I s1)] h P := by
  obtain ⟨g1, T⟩ := T
  obtain ⟨g2, T⟩ := T
  refine R_ic_eq (Dat dd_L_law 1181 rfl) rfl g1 g2 (fun c => ?_) (fun c => ?_)
  · replace T := T.1 c
    refine R_iinc (Dat dd_L_law 1184 rfl) rfl rfl rfl ?_
    refine R_goto (Dat dd_L_law 1185 rfl) rfl ?_
    exact T
  · replace T := T.2 c
    refine R_iconst (Dat dd_L_law 1182 rfl) ?_
    exact R_ireturn (Dat dd_L_law 1183 rfl) rfl T
