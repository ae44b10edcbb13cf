/-! THE LAW, case by case -/
def t_law : List (Nat × Instr × Nat) := [(0, .new 8, 3), (3, .dup, 1), (4, .invokespecial 137, 3), (7, .astore_n 1, 1), (8, .new 138, 3), (11, .dup, 1), (12, .invokespecial 140, 3), (15, .astore_n 2, 1), (16, .iconst 1, 1), (17, .newarray .long, 2), (19, .astore_n 3, 1), (20, .iconst 1, 1), (21, .newarray .double, 2), (23, .astore 4, 2), (25, .iconst 0, 1), (26, .istore 5, 2), (28, .iload 5, 2), (30, .aload_n 0, 1), (31, .arraylength, 1), (32, .iconst 4, 1), (33, .isub, 1), (34, .if_icmp .gt 2448, 3), (37, .aload_n 0, 1), (38, .iload 5, 2), (40, .iaload, 1), (41, .bipush 63, 2), (43, .iand, 1), (44, .tableswitch 2432 0 38 #[172, 228, 296, 364, 420, 476, 556, 624, 692, 760, 828, 908, 976, 1044, 1112, 1180, 1255, 1330, 1398, 1454, 1467, 1523, 1579, 1635, 1703, 1759, 1815, 1873, 1917, 1930, 1986, 2054, 2110, 2166, 2210, 2275, 2331, 2375, 2388], 172), (216, .aload_n 1, 1), (217, .aload_n 0, 1), (218, .iload 5, 2), (220, .iconst 1, 1), (221, .iadd, 1), (222, .iaload, 1), (223, .aload_n 3, 1), (224, .invokestatic 141, 3), (227, .istore 6, 2), (229, .aload_n 2, 1), (230, .aload_n 0, 1), (231, .iload 5, 2), (233, .iconst 1, 1), (234, .iadd, 1), (235, .iaload, 1), (236, .invokevirtual 146, 3), (239, .istore 7, 2), (241, .aload_n 2, 1), (242, .invokevirtual 147, 3), (245, .iload 6, 2), (247, .if_icmp .eq 5, 3), (250, .iconst 0, 1), (251, .ireturn, 1), (252, .iload 6, 2), (254, .ifCond .ne 15, 3), (257, .aload_n 3, 1), (258, .iconst 0, 1), (259, .laload, 1), (260, .iload 7, 2), (262, .i2l, 1), (263, .lcmp, 1), (264, .ifCond .eq 5, 3), (267, .iconst 0, 1), (268, .ireturn, 1), (269, .goto 2207, 3), (272, .aload_n 1, 1), (273, .aload_n 0, 1), (274, .iload 5, 2), (276, .iconst 1, 1), (277, .iadd, 1), (278, .iaload, 1), (279, .aload_n 0, 1), (280, .iload 5, 2), (282, .iconst 2, 1), (283, .iadd, 1), (284, .iaload, 1), (285, .aload_n 3, 1), (286, .invokestatic 150, 3), (289, .istore 6, 2), (291, .aload_n 2, 1), (292, .aload_n 0, 1), (293, .iload 5, 2), (295, .iconst 1, 1), (296, .iadd, 1), (297, .iaload, 1), (298, .aload_n 0, 1), (299, .iload 5, 2), (301, .iconst 2, 1), (302, .iadd, 1), (303, .iaload, 1), (304, .invokevirtual 153, 3), (307, .istore 7, 2), (309, .aload_n 2, 1), (310, .invokevirtual 147, 3), (313, .iload 6, 2), (315, .if_icmp .eq 5, 3), (318, .iconst 0, 1), (319, .ireturn, 1), (320, .iload 6, 2), (322, .ifCond .ne 15, 3), (325, .aload_n 3, 1), (326, .iconst 0, 1), (327, .laload, 1), (328, .iload 7, 2), (330, .i2l, 1), (331, .lcmp, 1), (332, .ifCond .eq 5, 3), (335, .iconst 0, 1), (336, .ireturn, 1), (337, .goto 2139, 3), (340, .aload_n 1, 1), (341, .aload_n 0, 1), (342, .iload 5, 2), (344, .iconst 1, 1), (345, .iadd, 1), (346, .iaload, 1), (347, .aload_n 0, 1), (348, .iload 5, 2), (350, .iconst 2, 1), (351, .iadd, 1), (352, .iaload, 1), (353, .aload_n 3, 1), (354, .invokestatic 154, 3), (357, .istore 6, 2), (359, .aload_n 2, 1), (360, .aload_n 0, 1), (361, .iload 5, 2), (363, .iconst 1, 1), (364, .iadd, 1), (365, .iaload, 1), (366, .aload_n 0, 1), (367, .iload 5, 2), (369, .iconst 2, 1), (370, .iadd, 1), (371, .iaload, 1), (372, .invokevirtual 156, 3), (375, .istore 7, 2), (377, .aload_n 2, 1), (378, .invokevirtual 147, 3), (381, .iload 6, 2), (383, .if_icmp .eq 5, 3), (386, .iconst 0, 1), (387, .ireturn, 1), (388, .iload 6, 2), (390, .ifCond .ne 15, 3), (393, .aload_n 3, 1), (394, .iconst 0, 1), (395, .laload, 1), (396, .iload 7, 2), (398, .i2l, 1), (399, .lcmp, 1), (400, .ifCond .eq 5, 3), (403, .iconst 0, 1), (404, .ireturn, 1), (405, .goto 2071, 3), (408, .aload_n 1, 1), (409, .aload_n 0, 1), (410, .iload 5, 2), (412, .iconst 1, 1), (413, .iadd, 1), (414, .iaload, 1), (415, .aload_n 3, 1), (416, .invokestatic 157, 3), (419, .istore 6, 2), (421, .aload_n 2, 1), (422, .aload_n 0, 1), (423, .iload 5, 2), (425, .iconst 1, 1), (426, .iadd, 1), (427, .iaload, 1), (428, .invokevirtual 159, 3), (431, .istore 7, 2), (433, .aload_n 2, 1), (434, .invokevirtual 147, 3), (437, .iload 6, 2), (439, .if_icmp .eq 5, 3), (442, .iconst 0, 1), (443, .ireturn, 1), (444, .iload 6, 2), (446, .ifCond .ne 15, 3), (449, .aload_n 3, 1), (450, .iconst 0, 1), (451, .laload, 1), (452, .iload 7, 2), (454, .i2l, 1), (455, .lcmp, 1), (456, .ifCond .eq 5, 3), (459, .iconst 0, 1), (460, .ireturn, 1), (461, .goto 2015, 3), (464, .aload_n 1, 1), (465, .aload_n 0, 1), (466, .iload 5, 2), (468, .iconst 1, 1), (469, .iadd, 1), (470, .iaload, 1), (471, .aload_n 3, 1), (472, .invokestatic 160, 3), (475, .istore 6, 2), (477, .aload_n 2, 1), (478, .aload_n 0, 1), (479, .iload 5, 2), (481, .iconst 1, 1), (482, .iadd, 1), (483, .iaload, 1), (484, .invokevirtual 162, 3), (487, .istore 7, 2), (489, .aload_n 2, 1), (490, .invokevirtual 147, 3), (493, .iload 6, 2), (495, .if_icmp .eq 5, 3), (498, .iconst 0, 1), (499, .ireturn, 1), (500, .iload 6, 2), (502, .ifCond .ne 15, 3), (505, .aload_n 3, 1), (506, .iconst 0, 1), (507, .laload, 1), (508, .iload 7, 2), (510, .i2l, 1), (511, .lcmp, 1), (512, .ifCond .eq 5, 3), (515, .iconst 0, 1), (516, .ireturn, 1), (517, .goto 1959, 3), (520, .aload_n 1, 1), (521, .aload_n 0, 1), (522, .iload 5, 2), (524, .iconst 1, 1), (525, .iadd, 1), (526, .iaload, 1), (527, .aload_n 0, 1), (528, .iload 5, 2), (530, .iconst 2, 1), (531, .iadd, 1), (532, .iaload, 1), (533, .aload_n 0, 1), (534, .iload 5, 2), (536, .iconst 3, 1), (537, .iadd, 1), (538, .iaload, 1), (539, .aload_n 3, 1), (540, .invokestatic 163, 3), (543, .istore 6, 2), (545, .aload_n 2, 1), (546, .aload_n 0, 1), (547, .iload 5, 2), (549, .iconst 1, 1), (550, .iadd, 1), (551, .iaload, 1), (552, .aload_n 0, 1), (553, .iload 5, 2), (555, .iconst 2, 1), (556, .iadd, 1), (557, .iaload, 1), (558, .aload_n 0, 1), (559, .iload 5, 2), (561, .iconst 3, 1), (562, .iadd, 1), (563, .iaload, 1), (564, .invokevirtual 166, 3), (567, .istore 7, 2), (569, .aload_n 2, 1), (570, .invokevirtual 147, 3), (573, .iload 6, 2), (575, .if_icmp .eq 5, 3), (578, .iconst 0, 1), (579, .ireturn, 1), (580, .iload 6, 2), (582, .ifCond .ne 15, 3), (585, .aload_n 3, 1), (586, .iconst 0, 1), (587, .laload, 1), (588, .iload 7, 2), (590, .i2l, 1), (591, .lcmp, 1), (592, .ifCond .eq 5, 3), (595, .iconst 0, 1), (596, .ireturn, 1), (597, .goto 1879, 3), (600, .aload_n 1, 1), (601, .aload_n 0, 1), (602, .iload 5, 2), (604, .iconst 1, 1), (605, .iadd, 1), (606, .iaload, 1), (607, .aload_n 0, 1), (608, .iload 5, 2), (610, .iconst 2, 1), (611, .iadd, 1), (612, .iaload, 1), (613, .aload_n 3, 1), (614, .invokestatic 167, 3), (617, .istore 6, 2), (619, .aload_n 2, 1), (620, .aload_n 0, 1), (621, .iload 5, 2), (623, .iconst 1, 1), (624, .iadd, 1), (625, .iaload, 1), (626, .aload_n 0, 1), (627, .iload 5, 2), (629, .iconst 2, 1), (630, .iadd, 1), (631, .iaload, 1), (632, .invokevirtual 169, 3), (635, .istore 7, 2), (637, .aload_n 2, 1), (638, .invokevirtual 147, 3), (641, .iload 6, 2), (643, .if_icmp .eq 5, 3), (646, .iconst 0, 1), (647, .ireturn, 1), (648, .iload 6, 2), (650, .ifCond .ne 15, 3), (653, .aload_n 3, 1), (654, .iconst 0, 1), (655, .laload, 1), (656, .iload 7, 2), (658, .i2l, 1), (659, .lcmp, 1), (660, .ifCond .eq 5, 3), (663, .iconst 0, 1), (664, .ireturn, 1), (665, .goto 1811, 3), (668, .aload_n 1, 1), (669, .aload_n 0, 1), (670, .iload 5, 2), (672, .iconst 1, 1), (673, .iadd, 1), (674, .iaload, 1), (675, .aload_n 0, 1), (676, .iload 5, 2), (678, .iconst 2, 1), (679, .iadd, 1), (680, .iaload, 1), (681, .aload_n 3, 1), (682, .invokestatic 170, 3), (685, .istore 6, 2), (687, .aload_n 2, 1), (688, .aload_n 0, 1), (689, .iload 5, 2), (691, .iconst 1, 1), (692, .iadd, 1), (693, .iaload, 1), (694, .aload_n 0, 1), (695, .iload 5, 2), (697, .iconst 2, 1), (698, .iadd, 1), (699, .iaload, 1), (700, .invokevirtual 172, 3), (703, .istore 7, 2), (705, .aload_n 2, 1), (706, .invokevirtual 147, 3), (709, .iload 6, 2), (711, .if_icmp .eq 5, 3), (714, .iconst 0, 1), (715, .ireturn, 1), (716, .iload 6, 2), (718, .ifCond .ne 15, 3), (721, .aload_n 3, 1), (722, .iconst 0, 1), (723, .laload, 1), (724, .iload 7, 2), (726, .i2l, 1), (727, .lcmp, 1), (728, .ifCond .eq 5, 3), (731, .iconst 0, 1), (732, .ireturn, 1), (733, .goto 1743, 3), (736, .aload_n 1, 1), (737, .aload_n 0, 1), (738, .iload 5, 2), (740, .iconst 1, 1), (741, .iadd, 1), (742, .iaload, 1), (743, .aload_n 0, 1), (744, .iload 5, 2), (746, .iconst 2, 1), (747, .iadd, 1), (748, .iaload, 1), (749, .aload_n 3, 1), (750, .invokestatic 173, 3), (753, .istore 6, 2), (755, .aload_n 2, 1), (756, .aload_n 0, 1), (757, .iload 5, 2), (759, .iconst 1, 1), (760, .iadd, 1), (761, .iaload, 1), (762, .aload_n 0, 1), (763, .iload 5, 2), (765, .iconst 2, 1), (766, .iadd, 1), (767, .iaload, 1), (768, .invokevirtual 175, 3), (771, .istore 7, 2), (773, .aload_n 2, 1), (774, .invokevirtual 147, 3), (777, .iload 6, 2), (779, .if_icmp .eq 5, 3), (782, .iconst 0, 1), (783, .ireturn, 1), (784, .iload 6, 2), (786, .ifCond .ne 15, 3), (789, .aload_n 3, 1), (790, .iconst 0, 1), (791, .laload, 1), (792, .iload 7, 2), (794, .i2l, 1), (795, .lcmp, 1), (796, .ifCond .eq 5, 3), (799, .iconst 0, 1), (800, .ireturn, 1), (801, .goto 1675, 3), (804, .aload_n 1, 1), (805, .aload_n 0, 1), (806, .iload 5, 2), (808, .iconst 1, 1), (809, .iadd, 1), (810, .iaload, 1), (811, .aload_n 0, 1), (812, .iload 5, 2), (814, .iconst 2, 1), (815, .iadd, 1), (816, .iaload, 1), (817, .aload_n 3, 1), (818, .invokestatic 176, 3), (821, .istore 6, 2), (823, .aload_n 2, 1), (824, .aload_n 0, 1), (825, .iload 5, 2), (827, .iconst 1, 1), (828, .iadd, 1), (829, .iaload, 1), (830, .aload_n 0, 1), (831, .iload 5, 2), (833, .iconst 2, 1), (834, .iadd, 1), (835, .iaload, 1), (836, .invokevirtual 178, 3), (839, .istore 7, 2), (841, .aload_n 2, 1), (842, .invokevirtual 147, 3), (845, .iload 6, 2), (847, .if_icmp .eq 5, 3), (850, .iconst 0, 1), (851, .ireturn, 1), (852, .iload 6, 2), (854, .ifCond .ne 15, 3), (857, .aload_n 3, 1), (858, .iconst 0, 1), (859, .laload, 1), (860, .iload 7, 2), (862, .i2l, 1), (863, .lcmp, 1), (864, .ifCond .eq 5, 3), (867, .iconst 0, 1), (868, .ireturn, 1), (869, .goto 1607, 3), (872, .aload_n 1, 1), (873, .aload_n 0, 1), (874, .iload 5, 2), (876, .iconst 1, 1), (877, .iadd, 1), (878, .iaload, 1), (879, .aload_n 0, 1), (880, .iload 5, 2), (882, .iconst 2, 1), (883, .iadd, 1), (884, .iaload, 1), (885, .aload_n 0, 1), (886, .iload 5, 2), (888, .iconst 3, 1), (889, .iadd, 1), (890, .iaload, 1), (891, .aload_n 3, 1), (892, .invokestatic 179, 3), (895, .istore 6, 2), (897, .aload_n 2, 1), (898, .aload_n 0, 1), (899, .iload 5, 2), (901, .iconst 1, 1), (902, .iadd, 1), (903, .iaload, 1), (904, .aload_n 0, 1), (905, .iload 5, 2), (907, .iconst 2, 1), (908, .iadd, 1), (909, .iaload, 1), (910, .aload_n 0, 1), (911, .iload 5, 2), (913, .iconst 3, 1), (914, .iadd, 1), (915, .iaload, 1), (916, .invokevirtual 181, 3), (919, .istore 7, 2), (921, .aload_n 2, 1), (922, .invokevirtual 147, 3), (925, .iload 6, 2), (927, .if_icmp .eq 5, 3), (930, .iconst 0, 1), (931, .ireturn, 1), (932, .iload 6, 2), (934, .ifCond .ne 15, 3), (937, .aload_n 3, 1), (938, .iconst 0, 1), (939, .laload, 1), (940, .iload 7, 2), (942, .i2l, 1), (943, .lcmp, 1), (944, .ifCond .eq 5, 3), (947, .iconst 0, 1), (948, .ireturn, 1), (949, .goto 1527, 3), (952, .aload_n 1, 1), (953, .aload_n 0, 1), (954, .iload 5, 2), (956, .iconst 1, 1), (957, .iadd, 1), (958, .iaload, 1), (959, .aload_n 0, 1), (960, .iload 5, 2), (962, .iconst 2, 1), (963, .iadd, 1), (964, .iaload, 1), (965, .aload_n 3, 1), (966, .invokestatic 182, 3), (969, .istore 6, 2), (971, .aload_n 2, 1), (972, .aload_n 0, 1), (973, .iload 5, 2), (975, .iconst 1, 1), (976, .iadd, 1), (977, .iaload, 1), (978, .aload_n 0, 1), (979, .iload 5, 2), (981, .iconst 2, 1), (982, .iadd, 1), (983, .iaload, 1), (984, .invokevirtual 184, 3), (987, .istore 7, 2), (989, .aload_n 2, 1), (990, .invokevirtual 147, 3), (993, .iload 6, 2), (995, .if_icmp .eq 5, 3), (998, .iconst 0, 1), (999, .ireturn, 1), (1000, .iload 6, 2), (1002, .ifCond .ne 15, 3), (1005, .aload_n 3, 1), (1006, .iconst 0, 1), (1007, .laload, 1), (1008, .iload 7, 2), (1010, .i2l, 1), (1011, .lcmp, 1), (1012, .ifCond .eq 5, 3), (1015, .iconst 0, 1), (1016, .ireturn, 1), (1017, .goto 1459, 3), (1020, .aload_n 1, 1), (1021, .aload_n 0, 1), (1022, .iload 5, 2), (1024, .iconst 1, 1), (1025, .iadd, 1), (1026, .iaload, 1), (1027, .aload_n 0, 1), (1028, .iload 5, 2), (1030, .iconst 2, 1), (1031, .iadd, 1), (1032, .iaload, 1), (1033, .aload_n 3, 1), (1034, .invokestatic 185, 3), (1037, .istore 6, 2), (1039, .aload_n 2, 1), (1040, .aload_n 0, 1), (1041, .iload 5, 2), (1043, .iconst 1, 1), (1044, .iadd, 1), (1045, .iaload, 1), (1046, .aload_n 0, 1), (1047, .iload 5, 2), (1049, .iconst 2, 1), (1050, .iadd, 1), (1051, .iaload, 1), (1052, .invokevirtual 187, 3), (1055, .istore 7, 2), (1057, .aload_n 2, 1), (1058, .invokevirtual 147, 3), (1061, .iload 6, 2), (1063, .if_icmp .eq 5, 3), (1066, .iconst 0, 1), (1067, .ireturn, 1), (1068, .iload 6, 2), (1070, .ifCond .ne 15, 3), (1073, .aload_n 3, 1), (1074, .iconst 0, 1), (1075, .laload, 1), (1076, .iload 7, 2), (1078, .i2l, 1), (1079, .lcmp, 1), (1080, .ifCond .eq 5, 3), (1083, .iconst 0, 1), (1084, .ireturn, 1), (1085, .goto 1391, 3), (1088, .aload_n 1, 1), (1089, .aload_n 0, 1), (1090, .iload 5, 2), (1092, .iconst 1, 1), (1093, .iadd, 1), (1094, .iaload, 1), (1095, .aload_n 0, 1), (1096, .iload 5, 2), (1098, .iconst 2, 1), (1099, .iadd, 1), (1100, .iaload, 1), (1101, .aload_n 3, 1), (1102, .invokestatic 188, 3), (1105, .istore 6, 2), (1107, .aload_n 2, 1), (1108, .aload_n 0, 1), (1109, .iload 5, 2), (1111, .iconst 1, 1), (1112, .iadd, 1), (1113, .iaload, 1), (1114, .aload_n 0, 1), (1115, .iload 5, 2), (1117, .iconst 2, 1), (1118, .iadd, 1), (1119, .iaload, 1), (1120, .invokevirtual 190, 3), (1123, .istore 7, 2), (1125, .aload_n 2, 1), (1126, .invokevirtual 147, 3), (1129, .iload 6, 2), (1131, .if_icmp .eq 5, 3), (1134, .iconst 0, 1), (1135, .ireturn, 1), (1136, .iload 6, 2), (1138, .ifCond .ne 15, 3), (1141, .aload_n 3, 1), (1142, .iconst 0, 1), (1143, .laload, 1), (1144, .iload 7, 2), (1146, .i2l, 1), (1147, .lcmp, 1), (1148, .ifCond .eq 5, 3), (1151, .iconst 0, 1), (1152, .ireturn, 1), (1153, .goto 1323, 3), (1156, .aload_n 1, 1), (1157, .aload_n 0, 1), (1158, .iload 5, 2), (1160, .iconst 1, 1), (1161, .iadd, 1), (1162, .iaload, 1), (1163, .aload_n 0, 1), (1164, .iload 5, 2), (1166, .iconst 2, 1), (1167, .iadd, 1), (1168, .iaload, 1), (1169, .aload_n 3, 1), (1170, .invokestatic 191, 3), (1173, .istore 6, 2), (1175, .aload_n 2, 1), (1176, .aload_n 0, 1), (1177, .iload 5, 2), (1179, .iconst 1, 1), (1180, .iadd, 1), (1181, .iaload, 1), (1182, .aload_n 0, 1), (1183, .iload 5, 2), (1185, .iconst 2, 1), (1186, .iadd, 1), (1187, .iaload, 1), (1188, .invokevirtual 193, 3), (1191, .istore 7, 2), (1193, .aload_n 2, 1), (1194, .invokevirtual 147, 3), (1197, .iload 6, 2), (1199, .if_icmp .eq 5, 3), (1202, .iconst 0, 1), (1203, .ireturn, 1), (1204, .iload 6, 2), (1206, .ifCond .ne 15, 3), (1209, .aload_n 3, 1), (1210, .iconst 0, 1), (1211, .laload, 1), (1212, .iload 7, 2), (1214, .i2l, 1), (1215, .lcmp, 1), (1216, .ifCond .eq 5, 3), (1219, .iconst 0, 1), (1220, .ireturn, 1), (1221, .goto 1255, 3), (1224, .aload_n 1, 1), (1225, .aload_n 0, 1), (1226, .iload 5, 2), (1228, .iconst 1, 1), (1229, .iadd, 1), (1230, .iaload, 1), (1231, .aload_n 0, 1), (1232, .iload 5, 2), (1234, .iconst 2, 1), (1235, .iadd, 1), (1236, .iaload, 1), (1237, .aload_n 3, 1), (1238, .invokestatic 194, 3), (1241, .istore 6, 2), (1243, .aload_n 2, 1), (1244, .aload_n 0, 1), (1245, .iload 5, 2), (1247, .iconst 1, 1), (1248, .iadd, 1), (1249, .iaload, 1), (1250, .aload_n 0, 1), (1251, .iload 5, 2), (1253, .iconst 2, 1), (1254, .iadd, 1), (1255, .iaload, 1), (1256, .invokevirtual 196, 3), (1259, .istore 7, 2), (1261, .aload_n 2, 1), (1262, .invokevirtual 147, 3), (1265, .iload 6, 2), (1267, .if_icmp .eq 5, 3), (1270, .iconst 0, 1), (1271, .ireturn, 1), (1272, .iload 6, 2), (1274, .ifCond .ne 22, 3), (1277, .aload_n 3, 1), (1278, .iconst 0, 1), (1279, .laload, 1), (1280, .iload 7, 2), (1282, .ifCond .eq 7, 3), (1285, .lconst 1, 1), (1286, .goto 4, 3), (1289, .lconst 0, 1), (1290, .lcmp, 1), (1291, .ifCond .eq 5, 3), (1294, .iconst 0, 1), (1295, .ireturn, 1), (1296, .goto 1180, 3), (1299, .aload_n 1, 1), (1300, .aload_n 0, 1), (1301, .iload 5, 2), (1303, .iconst 1, 1), (1304, .iadd, 1), (1305, .iaload, 1), (1306, .aload_n 0, 1), (1307, .iload 5, 2), (1309, .iconst 2, 1), (1310, .iadd, 1), (1311, .iaload, 1), (1312, .aload_n 3, 1), (1313, .invokestatic 197, 3), (1316, .istore 6, 2), (1318, .aload_n 2, 1), (1319, .aload_n 0, 1), (1320, .iload 5, 2), (1322, .iconst 1, 1), (1323, .iadd, 1), (1324, .iaload, 1), (1325, .aload_n 0, 1), (1326, .iload 5, 2), (1328, .iconst 2, 1), (1329, .iadd, 1), (1330, .iaload, 1), (1331, .invokevirtual 199, 3), (1334, .istore 7, 2), (1336, .aload_n 2, 1), (1337, .invokevirtual 147, 3), (1340, .iload 6, 2), (1342, .if_icmp .eq 5, 3), (1345, .iconst 0, 1), (1346, .ireturn, 1), (1347, .iload 6, 2), (1349, .ifCond .ne 22, 3), (1352, .aload_n 3, 1), (1353, .iconst 0, 1), (1354, .laload, 1), (1355, .iload 7, 2), (1357, .ifCond .eq 7, 3), (1360, .lconst 1, 1), (1361, .goto 4, 3), (1364, .lconst 0, 1), (1365, .lcmp, 1), (1366, .ifCond .eq 5, 3), (1369, .iconst 0, 1), (1370, .ireturn, 1), (1371, .goto 1105, 3), (1374, .aload_n 1, 1), (1375, .aload_n 0, 1), (1376, .iload 5, 2), (1378, .iconst 1, 1), (1379, .iadd, 1), (1380, .iaload, 1), (1381, .aload_n 0, 1), (1382, .iload 5, 2), (1384, .iconst 2, 1), (1385, .iadd, 1), (1386, .iaload, 1), (1387, .aload_n 3, 1), (1388, .invokestatic 200, 3), (1391, .istore 6, 2), (1393, .aload_n 2, 1), (1394, .aload_n 0, 1), (1395, .iload 5, 2), (1397, .iconst 1, 1), (1398, .iadd, 1), (1399, .iaload, 1), (1400, .aload_n 0, 1), (1401, .iload 5, 2), (1403, .iconst 2, 1), (1404, .iadd, 1), (1405, .iaload, 1), (1406, .invokevirtual 202, 3), (1409, .istore 7, 2), (1411, .aload_n 2, 1), (1412, .invokevirtual 147, 3), (1415, .iload 6, 2), (1417, .if_icmp .eq 5, 3), (1420, .iconst 0, 1), (1421, .ireturn, 1), (1422, .iload 6, 2), (1424, .ifCond .ne 15, 3), (1427, .aload_n 3, 1), (1428, .iconst 0, 1), (1429, .laload, 1), (1430, .iload 7, 2), (1432, .i2l, 1), (1433, .lcmp, 1), (1434, .ifCond .eq 5, 3), (1437, .iconst 0, 1), (1438, .ireturn, 1), (1439, .goto 1037, 3), (1442, .aload_n 1, 1), (1443, .aload_n 0, 1), (1444, .iload 5, 2), (1446, .iconst 1, 1), (1447, .iadd, 1), (1448, .iaload, 1), (1449, .aload_n 3, 1), (1450, .invokestatic 203, 3), (1453, .istore 6, 2), (1455, .aload_n 2, 1), (1456, .aload_n 0, 1), (1457, .iload 5, 2), (1459, .iconst 1, 1), (1460, .iadd, 1), (1461, .iaload, 1), (1462, .invokevirtual 205, 3), (1465, .istore 7, 2), (1467, .aload_n 2, 1), (1468, .invokevirtual 147, 3), (1471, .iload 6, 2), (1473, .if_icmp .eq 5, 3), (1476, .iconst 0, 1), (1477, .ireturn, 1), (1478, .iload 6, 2), (1480, .ifCond .ne 15, 3), (1483, .aload_n 3, 1), (1484, .iconst 0, 1), (1485, .laload, 1), (1486, .iload 7, 2), (1488, .i2l, 1), (1489, .lcmp, 1), (1490, .ifCond .eq 5, 3), (1493, .iconst 0, 1), (1494, .ireturn, 1), (1495, .goto 981, 3), (1498, .aload_n 1, 1), (1499, .invokevirtual 206, 3), (1502, .aload_n 2, 1), (1503, .invokevirtual 209, 3), (1506, .if_icmp .eq 970, 3), (1509, .iconst 0, 1), (1510, .ireturn, 1), (1511, .aload_n 1, 1), (1512, .aload_n 0, 1), (1513, .iload 5, 2), (1515, .iconst 1, 1), (1516, .iadd, 1), (1517, .iaload, 1), (1518, .aload_n 3, 1), (1519, .invokestatic 210, 3), (1522, .istore 6, 2), (1524, .aload_n 2, 1), (1525, .aload_n 0, 1), (1526, .iload 5, 2), (1528, .iconst 1, 1), (1529, .iadd, 1), (1530, .iaload, 1), (1531, .invokevirtual 212, 3), (1534, .istore 7, 2), (1536, .aload_n 2, 1), (1537, .invokevirtual 147, 3), (1540, .iload 6, 2), (1542, .if_icmp .eq 5, 3), (1545, .iconst 0, 1), (1546, .ireturn, 1), (1547, .iload 6, 2), (1549, .ifCond .ne 15, 3), (1552, .aload_n 3, 1), (1553, .iconst 0, 1), (1554, .laload, 1), (1555, .iload 7, 2), (1557, .i2l, 1), (1558, .lcmp, 1), (1559, .ifCond .eq 5, 3), (1562, .iconst 0, 1), (1563, .ireturn, 1), (1564, .goto 912, 3), (1567, .aload_n 1, 1), (1568, .aload_n 0, 1), (1569, .iload 5, 2), (1571, .iconst 1, 1), (1572, .iadd, 1), (1573, .iaload, 1), (1574, .aload_n 3, 1), (1575, .invokestatic 213, 3), (1578, .istore 6, 2), (1580, .aload_n 2, 1), (1581, .aload_n 0, 1), (1582, .iload 5, 2), (1584, .iconst 1, 1), (1585, .iadd, 1), (1586, .iaload, 1), (1587, .invokevirtual 215, 3), (1590, .istore 7, 2), (1592, .aload_n 2, 1), (1593, .invokevirtual 147, 3), (1596, .iload 6, 2), (1598, .if_icmp .eq 5, 3), (1601, .iconst 0, 1), (1602, .ireturn, 1), (1603, .iload 6, 2), (1605, .ifCond .ne 15, 3), (1608, .aload_n 3, 1), (1609, .iconst 0, 1), (1610, .laload, 1), (1611, .iload 7, 2), (1613, .i2l, 1), (1614, .lcmp, 1), (1615, .ifCond .eq 5, 3), (1618, .iconst 0, 1), (1619, .ireturn, 1), (1620, .goto 856, 3), (1623, .aload_n 1, 1), (1624, .aload_n 0, 1), (1625, .iload 5, 2), (1627, .iconst 1, 1), (1628, .iadd, 1), (1629, .iaload, 1), (1630, .aload_n 3, 1), (1631, .invokestatic 216, 3), (1634, .istore 6, 2), (1636, .aload_n 2, 1), (1637, .aload_n 0, 1), (1638, .iload 5, 2), (1640, .iconst 1, 1), (1641, .iadd, 1), (1642, .iaload, 1), (1643, .invokevirtual 218, 3), (1646, .istore 7, 2), (1648, .aload_n 2, 1), (1649, .invokevirtual 147, 3), (1652, .iload 6, 2), (1654, .if_icmp .eq 5, 3), (1657, .iconst 0, 1), (1658, .ireturn, 1), (1659, .iload 6, 2), (1661, .ifCond .ne 15, 3), (1664, .aload_n 3, 1), (1665, .iconst 0, 1), (1666, .laload, 1), (1667, .iload 7, 2), (1669, .i2l, 1), (1670, .lcmp, 1), (1671, .ifCond .eq 5, 3), (1674, .iconst 0, 1), (1675, .ireturn, 1), (1676, .goto 800, 3), (1679, .aload_n 1, 1), (1680, .aload_n 0, 1), (1681, .iload 5, 2), (1683, .iconst 1, 1), (1684, .iadd, 1), (1685, .iaload, 1), (1686, .aload_n 0, 1), (1687, .iload 5, 2), (1689, .iconst 2, 1), (1690, .iadd, 1), (1691, .iaload, 1), (1692, .aload_n 3, 1), (1693, .invokestatic 219, 3), (1696, .istore 6, 2), (1698, .aload_n 2, 1), (1699, .aload_n 0, 1), (1700, .iload 5, 2), (1702, .iconst 1, 1), (1703, .iadd, 1), (1704, .iaload, 1), (1705, .aload_n 0, 1), (1706, .iload 5, 2), (1708, .iconst 2, 1), (1709, .iadd, 1), (1710, .iaload, 1), (1711, .invokevirtual 221, 3), (1714, .istore 7, 2), (1716, .aload_n 2, 1), (1717, .invokevirtual 147, 3), (1720, .iload 6, 2), (1722, .if_icmp .eq 5, 3), (1725, .iconst 0, 1), (1726, .ireturn, 1), (1727, .iload 6, 2), (1729, .ifCond .ne 15, 3), (1732, .aload_n 3, 1), (1733, .iconst 0, 1), (1734, .laload, 1), (1735, .iload 7, 2), (1737, .i2l, 1), (1738, .lcmp, 1), (1739, .ifCond .eq 5, 3), (1742, .iconst 0, 1), (1743, .ireturn, 1), (1744, .goto 732, 3), (1747, .aload_n 1, 1), (1748, .aload_n 0, 1), (1749, .iload 5, 2), (1751, .iconst 1, 1), (1752, .iadd, 1), (1753, .iaload, 1), (1754, .aload_n 3, 1), (1755, .invokestatic 222, 3), (1758, .istore 6, 2), (1760, .aload_n 2, 1), (1761, .aload_n 0, 1), (1762, .iload 5, 2), (1764, .iconst 1, 1), (1765, .iadd, 1), (1766, .iaload, 1), (1767, .invokevirtual 224, 3), (1770, .istore 7, 2), (1772, .aload_n 2, 1), (1773, .invokevirtual 147, 3), (1776, .iload 6, 2), (1778, .if_icmp .eq 5, 3), (1781, .iconst 0, 1), (1782, .ireturn, 1), (1783, .iload 6, 2), (1785, .ifCond .ne 15, 3), (1788, .aload_n 3, 1), (1789, .iconst 0, 1), (1790, .laload, 1), (1791, .iload 7, 2), (1793, .i2l, 1), (1794, .lcmp, 1), (1795, .ifCond .eq 5, 3), (1798, .iconst 0, 1), (1799, .ireturn, 1), (1800, .goto 676, 3), (1803, .aload_n 1, 1), (1804, .aload_n 0, 1), (1805, .iload 5, 2), (1807, .iconst 1, 1), (1808, .iadd, 1), (1809, .iaload, 1), (1810, .aload_n 3, 1), (1811, .invokestatic 225, 3), (1814, .istore 6, 2), (1816, .aload_n 2, 1), (1817, .aload_n 0, 1), (1818, .iload 5, 2), (1820, .iconst 1, 1), (1821, .iadd, 1), (1822, .iaload, 1), (1823, .invokevirtual 227, 3), (1826, .istore 7, 2), (1828, .aload_n 2, 1), (1829, .invokevirtual 147, 3), (1832, .iload 6, 2), (1834, .if_icmp .eq 5, 3), (1837, .iconst 0, 1), (1838, .ireturn, 1), (1839, .iload 6, 2), (1841, .ifCond .ne 15, 3), (1844, .aload_n 3, 1), (1845, .iconst 0, 1), (1846, .laload, 1), (1847, .iload 7, 2), (1849, .i2l, 1), (1850, .lcmp, 1), (1851, .ifCond .eq 5, 3), (1854, .iconst 0, 1), (1855, .ireturn, 1), (1856, .goto 620, 3), (1859, .aload_n 1, 1), (1860, .aload_n 0, 1), (1861, .iload 5, 2), (1863, .iconst 1, 1), (1864, .iadd, 1), (1865, .iaload, 1), (1866, .i2c, 1), (1867, .aload_n 3, 1), (1868, .invokestatic 228, 3), (1871, .istore 6, 2), (1873, .aload_n 2, 1), (1874, .aload_n 0, 1), (1875, .iload 5, 2), (1877, .iconst 1, 1), (1878, .iadd, 1), (1879, .iaload, 1), (1880, .i2c, 1), (1881, .invokevirtual 231, 3), (1884, .istore 7, 2), (1886, .aload_n 2, 1), (1887, .invokevirtual 147, 3), (1890, .iload 6, 2), (1892, .if_icmp .eq 5, 3), (1895, .iconst 0, 1), (1896, .ireturn, 1), (1897, .iload 6, 2), (1899, .ifCond .ne 15, 3), (1902, .aload_n 3, 1), (1903, .iconst 0, 1), (1904, .laload, 1), (1905, .iload 7, 2), (1907, .i2l, 1), (1908, .lcmp, 1), (1909, .ifCond .eq 5, 3), (1912, .iconst 0, 1), (1913, .ireturn, 1), (1914, .goto 562, 3), (1917, .aload_n 1, 1), (1918, .aload_n 3, 1), (1919, .invokestatic 232, 3), (1922, .istore 6, 2), (1924, .aload_n 2, 1), (1925, .invokevirtual 235, 3), (1928, .istore 7, 2), (1930, .aload_n 2, 1), (1931, .invokevirtual 147, 3), (1934, .iload 6, 2), (1936, .if_icmp .eq 5, 3), (1939, .iconst 0, 1), (1940, .ireturn, 1), (1941, .iload 6, 2), (1943, .ifCond .ne 15, 3), (1946, .aload_n 3, 1), (1947, .iconst 0, 1), (1948, .laload, 1), (1949, .iload 7, 2), (1951, .i2l, 1), (1952, .lcmp, 1), (1953, .ifCond .eq 5, 3), (1956, .iconst 0, 1), (1957, .ireturn, 1), (1958, .goto 518, 3), (1961, .aload_n 1, 1), (1962, .invokevirtual 236, 3), (1965, .aload_n 2, 1), (1966, .invokevirtual 239, 3), (1969, .if_icmp .eq 507, 3), (1972, .iconst 0, 1), (1973, .ireturn, 1), (1974, .aload_n 1, 1), (1975, .aload_n 0, 1), (1976, .iload 5, 2), (1978, .iconst 1, 1), (1979, .iadd, 1), (1980, .iaload, 1), (1981, .aload_n 3, 1), (1982, .invokestatic 240, 3), (1985, .istore 6, 2), (1987, .aload_n 2, 1), (1988, .aload_n 0, 1), (1989, .iload 5, 2), (1991, .iconst 1, 1), (1992, .iadd, 1), (1993, .iaload, 1), (1994, .invokevirtual 242, 3), (1997, .istore 7, 2), (1999, .aload_n 2, 1), (2000, .invokevirtual 147, 3), (2003, .iload 6, 2), (2005, .if_icmp .eq 5, 3), (2008, .iconst 0, 1), (2009, .ireturn, 1), (2010, .iload 6, 2), (2012, .ifCond .ne 15, 3), (2015, .aload_n 3, 1), (2016, .iconst 0, 1), (2017, .laload, 1), (2018, .iload 7, 2), (2020, .i2l, 1), (2021, .lcmp, 1), (2022, .ifCond .eq 5, 3), (2025, .iconst 0, 1), (2026, .ireturn, 1), (2027, .goto 449, 3), (2030, .aload_n 1, 1), (2031, .aload_n 0, 1), (2032, .iload 5, 2), (2034, .iconst 1, 1), (2035, .iadd, 1), (2036, .iaload, 1), (2037, .aload_n 0, 1), (2038, .iload 5, 2), (2040, .iconst 2, 1), (2041, .iadd, 1), (2042, .iaload, 1), (2043, .aload_n 3, 1), (2044, .invokestatic 243, 3), (2047, .istore 6, 2), (2049, .aload_n 2, 1), (2050, .aload_n 0, 1), (2051, .iload 5, 2), (2053, .iconst 1, 1), (2054, .iadd, 1), (2055, .iaload, 1), (2056, .aload_n 0, 1), (2057, .iload 5, 2), (2059, .iconst 2, 1), (2060, .iadd, 1), (2061, .iaload, 1), (2062, .invokevirtual 245, 3), (2065, .istore 7, 2), (2067, .aload_n 2, 1), (2068, .invokevirtual 147, 3), (2071, .iload 6, 2), (2073, .if_icmp .eq 5, 3), (2076, .iconst 0, 1), (2077, .ireturn, 1), (2078, .iload 6, 2), (2080, .ifCond .ne 15, 3), (2083, .aload_n 3, 1), (2084, .iconst 0, 1), (2085, .laload, 1), (2086, .iload 7, 2), (2088, .i2l, 1), (2089, .lcmp, 1), (2090, .ifCond .eq 5, 3), (2093, .iconst 0, 1), (2094, .ireturn, 1), (2095, .goto 381, 3), (2098, .aload_n 1, 1), (2099, .aload_n 0, 1), (2100, .iload 5, 2), (2102, .iconst 1, 1), (2103, .iadd, 1), (2104, .iaload, 1), (2105, .aload_n 3, 1), (2106, .invokestatic 246, 3), (2109, .istore 6, 2), (2111, .aload_n 2, 1), (2112, .aload_n 0, 1), (2113, .iload 5, 2), (2115, .iconst 1, 1), (2116, .iadd, 1), (2117, .iaload, 1), (2118, .invokevirtual 248, 3), (2121, .istore 7, 2), (2123, .aload_n 2, 1), (2124, .invokevirtual 147, 3), (2127, .iload 6, 2), (2129, .if_icmp .eq 5, 3), (2132, .iconst 0, 1), (2133, .ireturn, 1), (2134, .iload 6, 2), (2136, .ifCond .ne 15, 3), (2139, .aload_n 3, 1), (2140, .iconst 0, 1), (2141, .laload, 1), (2142, .iload 7, 2), (2144, .i2l, 1), (2145, .lcmp, 1), (2146, .ifCond .eq 5, 3), (2149, .iconst 0, 1), (2150, .ireturn, 1), (2151, .goto 325, 3), (2154, .aload_n 1, 1), (2155, .aload_n 0, 1), (2156, .iload 5, 2), (2158, .iconst 1, 1), (2159, .iadd, 1), (2160, .iaload, 1), (2161, .aload_n 3, 1), (2162, .invokestatic 249, 3), (2165, .istore 6, 2), (2167, .aload_n 2, 1), (2168, .aload_n 0, 1), (2169, .iload 5, 2), (2171, .iconst 1, 1), (2172, .iadd, 1), (2173, .iaload, 1), (2174, .invokevirtual 251, 3), (2177, .istore 7, 2), (2179, .aload_n 2, 1), (2180, .invokevirtual 147, 3), (2183, .iload 6, 2), (2185, .if_icmp .eq 5, 3), (2188, .iconst 0, 1), (2189, .ireturn, 1), (2190, .iload 6, 2), (2192, .ifCond .ne 15, 3), (2195, .aload_n 3, 1), (2196, .iconst 0, 1), (2197, .laload, 1), (2198, .iload 7, 2), (2200, .i2l, 1), (2201, .lcmp, 1), (2202, .ifCond .eq 5, 3), (2205, .iconst 0, 1), (2206, .ireturn, 1), (2207, .goto 269, 3), (2210, .aload_n 1, 1), (2211, .aload_n 3, 1), (2212, .invokestatic 252, 3), (2215, .istore 6, 2), (2217, .aload_n 2, 1), (2218, .invokevirtual 254, 3), (2221, .istore 7, 2), (2223, .aload_n 2, 1), (2224, .invokevirtual 147, 3), (2227, .iload 6, 2), (2229, .if_icmp .eq 5, 3), (2232, .iconst 0, 1), (2233, .ireturn, 1), (2234, .iload 6, 2), (2236, .ifCond .ne 15, 3), (2239, .aload_n 3, 1), (2240, .iconst 0, 1), (2241, .laload, 1), (2242, .iload 7, 2), (2244, .i2l, 1), (2245, .lcmp, 1), (2246, .ifCond .eq 5, 3), (2249, .iconst 0, 1), (2250, .ireturn, 1), (2251, .goto 225, 3), (2254, .aload_n 1, 1), (2255, .aload 4, 2), (2257, .invokestatic 255, 3), (2260, .istore 6, 2), (2262, .aload_n 2, 1), (2263, .invokevirtual 258, 3), (2266, .dstore 7, 2), (2268, .aload_n 2, 1), (2269, .invokevirtual 147, 3), (2272, .iload 6, 2), (2274, .if_icmp .eq 5, 3), (2277, .iconst 0, 1), (2278, .ireturn, 1), (2279, .iload 6, 2), (2281, .ifCond .ne 35, 3), (2284, .aload 4, 2), (2286, .iconst 0, 1), (2287, .daload, 1), (2288, .dload 7, 2), (2290, .dcmp .l, 1), (2291, .ifCond .eq 25, 3), (2294, .aload 4, 2), (2296, .iconst 0, 1), (2297, .daload, 1), (2298, .aload 4, 2), (2300, .iconst 0, 1), (2301, .daload, 1), (2302, .dcmp .l, 1), (2303, .ifCond .eq 11, 3), (2306, .dload 7, 2), (2308, .dload 7, 2), (2310, .dcmp .l, 1), (2311, .ifCond .ne 5, 3), (2314, .iconst 0, 1), (2315, .ireturn, 1), (2316, .goto 160, 3), (2319, .aload_n 1, 1), (2320, .aload_n 0, 1), (2321, .iload 5, 2), (2323, .iconst 1, 1), (2324, .iadd, 1), (2325, .iaload, 1), (2326, .aload_n 3, 1), (2327, .invokestatic 259, 3), (2330, .istore 6, 2), (2332, .aload_n 2, 1), (2333, .aload_n 0, 1), (2334, .iload 5, 2), (2336, .iconst 1, 1), (2337, .iadd, 1), (2338, .iaload, 1), (2339, .invokevirtual 261, 3), (2342, .istore 7, 2), (2344, .aload_n 2, 1), (2345, .invokevirtual 147, 3), (2348, .iload 6, 2), (2350, .if_icmp .eq 5, 3), (2353, .iconst 0, 1), (2354, .ireturn, 1), (2355, .iload 6, 2), (2357, .ifCond .ne 15, 3), (2360, .aload_n 3, 1), (2361, .iconst 0, 1), (2362, .laload, 1), (2363, .iload 7, 2), (2365, .i2l, 1), (2366, .lcmp, 1), (2367, .ifCond .eq 5, 3), (2370, .iconst 0, 1), (2371, .ireturn, 1), (2372, .goto 104, 3), (2375, .aload_n 1, 1), (2376, .aload_n 3, 1), (2377, .invokestatic 262, 3), (2380, .istore 6, 2), (2382, .aload_n 2, 1), (2383, .invokevirtual 264, 3), (2386, .istore 7, 2), (2388, .aload_n 2, 1), (2389, .invokevirtual 147, 3), (2392, .iload 6, 2), (2394, .if_icmp .eq 5, 3), (2397, .iconst 0, 1), (2398, .ireturn, 1), (2399, .iload 6, 2), (2401, .ifCond .ne 15, 3), (2404, .aload_n 3, 1), (2405, .iconst 0, 1), (2406, .laload, 1), (2407, .iload 7, 2), (2409, .i2l, 1), (2410, .lcmp, 1), (2411, .ifCond .eq 5, 3), (2414, .iconst 0, 1), (2415, .ireturn, 1), (2416, .goto 60, 3), (2419, .aload_n 1, 1), (2420, .invokevirtual 265, 3), (2423, .aload_n 2, 1), (2424, .invokevirtual 268, 3), (2427, .if_icmp .eq 49, 3), (2430, .iconst 0, 1), (2431, .ireturn, 1), (2432, .aload_n 1, 1), (2433, .aload_n 3, 1), (2434, .invokestatic 269, 3), (2437, .istore 6, 2), (2439, .aload_n 2, 1), (2440, .invokevirtual 271, 3), (2443, .istore 7, 2), (2445, .aload_n 2, 1), (2446, .invokevirtual 147, 3), (2449, .iload 6, 2), (2451, .if_icmp .eq 5, 3), (2454, .iconst 0, 1), (2455, .ireturn, 1), (2456, .iload 6, 2), (2458, .ifCond .ne 15, 3), (2461, .aload_n 3, 1), (2462, .iconst 0, 1), (2463, .laload, 1), (2464, .iload 7, 2), (2466, .i2l, 1), (2467, .lcmp, 1), (2468, .ifCond .eq 5, 3), (2471, .iconst 0, 1), (2472, .ireturn, 1), (2473, .goto 3, 3), (2476, .iinc 5 4, 3), (2479, .goto (-2451), 3), (2482, .iconst 1, 1), (2483, .ireturn, 1)]
theorem dt_law : tblOK code t_law = true := by decide +kernel
section AM9
variable {p : Program} {l : Launch} {e : Env} {R : Room} {s : State} {m : MethodId} {args : Array Value} {below : List Frame} {meth : Method} {c : Code} {Q : State → Prop}
variable {D : va_G} {ty : Nat → ClassId} {ρ : Nat → Nat → Nat} {N0 nL : Nat} {cc : ByteArray} {own : String} {ret : Option FieldType}
variable {pc : Nat} {ls : List (Option Value)} {st : List Value} {σ σ' : Sg} {cells slots : Nat} {out : Option Value ⊕ String}
theorem a_sld (K : Cx p l s m args meth c cc nL own ret D ty ρ N0) {b L : Nat} {xs : Nat → Int32} (hX : va_X b L xs s s.heap) (hbl : b < s.heap.size) (hbA : ¬ N0 ≤ b) {j : Int32} (hin : vp_in j L) (hdg : decode cc pc = .ok (.iaload, 1))
    (kk : WA p l e R s m args below meth c D ty ρ N0 nL Q (pc + 1) ls (.int (xs j.toNatClampNeg) :: st) σ cells slots) : WA p l e R s m args below meth c D ty ρ N0 nL Q pc ls (.int j :: .ref b :: st) σ cells slots := fun H locs lsr hP hS hL => va_sld K.1.1 K.1.2.1 hX hbl hbA hS hin hdg (kk H locs lsr hP hS hL)
theorem a_slen (K : Cx p l s m args meth c cc nL own ret D ty ρ N0) {b L : Nat} {xs : Nat → Int32} (hX : va_X b L xs s s.heap) (hbl : b < s.heap.size) (hbA : ¬ N0 ≤ b) (hdg : decode cc pc = .ok (.arraylength, 1))
    (kk : WA p l e R s m args below meth c D ty ρ N0 nL Q (pc + 1) ls (.int (Int32.ofNat L) :: st) σ cells slots) : WA p l e R s m args below meth c D ty ρ N0 nL Q pc ls (.ref b :: st) σ cells slots := fun H locs lsr hP hS hL => va_slen K.1.1 K.1.2.1 hX hbl hbA hS hdg (kk H locs lsr hP hS hL)
end AM9
theorem mh_L_141 : Cond.methodLink RL 141 yL_farm ∈ GW := gwp 234 (by decide +kernel) rfl
theorem mh_L_150 : Cond.methodLink RL 150 yL_lay ∈ GW := gwp 502 (by decide +kernel) rfl
theorem mh_L_154 : Cond.methodLink RL 154 yL_giveUp ∈ GW := gwp 509 (by decide +kernel) rfl
theorem mh_L_157 : Cond.methodLink RL 157 yL_root ∈ GW := gwp 516 (by decide +kernel) rfl
theorem mh_L_160 : Cond.methodLink RL 160 yL_expose ∈ GW := gwp 523 (by decide +kernel) rfl
theorem mh_L_163 : Cond.methodLink RL 163 yL_charge ∈ GW := gwp 530 (by decide +kernel) rfl
theorem mh_L_167 : Cond.methodLink RL 167 yL_drive ∈ GW := gwp 537 (by decide +kernel) rfl
theorem mh_L_170 : Cond.methodLink RL 170 yL_farmOf ∈ GW := gwp 544 (by decide +kernel) rfl
theorem mh_L_173 : Cond.methodLink RL 173 yL_steps ∈ GW := gwp 625 (by decide +kernel) rfl
theorem mh_L_176 : Cond.methodLink RL 176 yL_next ∈ GW := gwp 653 (by decide +kernel) rfl
theorem mh_L_179 : Cond.methodLink RL 179 yL_onWay ∈ GW := gwp 665 (by decide +kernel) rfl
theorem mh_L_182 : Cond.methodLink RL 182 yL_meet ∈ GW := gwp 672 (by decide +kernel) rfl
theorem mh_L_185 : Cond.methodLink RL 185 yL_sum ∈ GW := gwp 683 (by decide +kernel) rfl
theorem mh_L_188 : Cond.methodLink RL 188 yL_sumAgain ∈ GW := gwp 695 (by decide +kernel) rfl
theorem mh_L_191 : Cond.methodLink RL 191 yL_dearest ∈ GW := gwp 702 (by decide +kernel) rfl
theorem mh_L_194 : Cond.methodLink RL 194 yL_isJoined ∈ GW := gwp 709 (by decide +kernel) rfl
theorem mh_L_197 : Cond.methodLink RL 197 yL_isTrack ∈ GW := gwp 716 (by decide +kernel) rfl
theorem mh_L_200 : Cond.methodLink RL 200 yL_exposed ∈ GW := gwp 723 (by decide +kernel) rfl
theorem mh_L_203 : Cond.methodLink RL 203 yL_wouldChange ∈ GW := gwp 731 (by decide +kernel) rfl
theorem mh_L_210 : Cond.methodLink RL 210 yL_size ∈ GW := gwp 738 (by decide +kernel) rfl
theorem mh_L_213 : Cond.methodLink RL 213 yL_farthest ∈ GW := gwp 745 (by decide +kernel) rfl
theorem mh_L_216 : Cond.methodLink RL 216 yL_longest ∈ GW := gwp 756 (by decide +kernel) rfl
theorem mh_L_219 : Cond.methodLink RL 219 yL_wouldSplit ∈ GW := gwp 763 (by decide +kernel) rfl
theorem mh_L_222 : Cond.methodLink RL 222 yL_drover ∈ GW := gwp 771 (by decide +kernel) rfl
theorem mh_L_225 : Cond.methodLink RL 225 yL_ranked ∈ GW := gwp 779 (by decide +kernel) rfl
theorem mh_L_228 : Cond.methodLink RL 228 yL_append ∈ GW := gwp 795 (by decide +kernel) rfl
theorem mh_L_232 : Cond.methodLink RL 232 yL_commands ∈ GW := gwp 831 (by decide +kernel) rfl
theorem mh_L_240 : Cond.methodLink RL 240 yL_reason ∈ GW := gwp 955 (by decide +kernel) rfl
theorem mh_L_243 : Cond.methodLink RL 243 yL_way ∈ GW := gwp 980 (by decide +kernel) rfl
theorem mh_L_246 : Cond.methodLink RL 246 yL_tree ∈ GW := gwp 1004 (by decide +kernel) rfl
theorem mh_L_249 : Cond.methodLink RL 249 yL_character ∈ GW := gwp 1014 (by decide +kernel) rfl
theorem mh_L_252 : Cond.methodLink RL 252 yL_meanToll ∈ GW := gwp 1026 (by decide +kernel) rfl
theorem mh_L_259 : Cond.methodLink RL 259 yL_account ∈ GW := gwp 1074 (by decide +kernel) rfl
theorem mh_L_262 : Cond.methodLink RL 262 yL_undo ∈ GW := gwp 1100 (by decide +kernel) rfl
theorem mh_L_269 : Cond.methodLink RL 269 yL_restore ∈ GW := gwp 1112 (by decide +kernel) rfl
theorem ml_L_146 : Cond.methodLink RL 146 yX7_farm ∈ GW := gwp 1201 (by decide +kernel) rfl
theorem ml_L_147 : Cond.methodLink RL 147 yX7_thrown ∈ GW := gwp 1197 (by decide +kernel) rfl
theorem cw_X7_thrown : CwV RX7 yX7_thrown cX7_thrown 1 (some .int) 0 := ⟨gwp 1200 (by decide +kernel) rfl, gwp 1198 (by decide +kernel) rfl, gwp 1199 (by decide +kernel) rfl, gwp 9 (by decide +kernel) rfl, by decide +kernel⟩
theorem ml_L_153 : Cond.methodLink RL 153 yX7_lay ∈ GW := gwp 1219 (by decide +kernel) rfl
theorem ml_L_156 : Cond.methodLink RL 156 yX7_giveUp ∈ GW := gwp 1271 (by decide +kernel) rfl
theorem ml_L_159 : Cond.methodLink RL 159 yX7_root ∈ GW := gwp 1287 (by decide +kernel) rfl
theorem ml_L_162 : Cond.methodLink RL 162 yX7_expose ∈ GW := gwp 1291 (by decide +kernel) rfl
theorem ml_L_166 : Cond.methodLink RL 166 yX7_charge ∈ GW := gwp 1303 (by decide +kernel) rfl
theorem ml_L_169 : Cond.methodLink RL 169 yX7_drive ∈ GW := gwp 1319 (by decide +kernel) rfl
theorem ml_L_172 : Cond.methodLink RL 172 yX7_farmOf ∈ GW := gwp 1323 (by decide +kernel) rfl
theorem cw_X7_farmOf : CwV RX7 yX7_farmOf cX7_farmOf 3 (some .int) 2 := ⟨gwp 1326 (by decide +kernel) rfl, gwp 1324 (by decide +kernel) rfl, gwp 1325 (by decide +kernel) rfl, gwp 9 (by decide +kernel) rfl, by decide +kernel⟩
theorem ml_L_175 : Cond.methodLink RL 175 yX7_steps ∈ GW := gwp 1339 (by decide +kernel) rfl
theorem cw_X7_steps : CwV RX7 yX7_steps cX7_steps 3 (some .int) 2 := ⟨gwp 1342 (by decide +kernel) rfl, gwp 1340 (by decide +kernel) rfl, gwp 1341 (by decide +kernel) rfl, gwp 9 (by decide +kernel) rfl, by decide +kernel⟩
theorem ml_L_178 : Cond.methodLink RL 178 yX7_next ∈ GW := gwp 1347 (by decide +kernel) rfl
theorem cw_X7_next : CwV RX7 yX7_next cX7_next 3 (some .int) 2 := ⟨gwp 1350 (by decide +kernel) rfl, gwp 1348 (by decide +kernel) rfl, gwp 1349 (by decide +kernel) rfl, gwp 9 (by decide +kernel) rfl, by decide +kernel⟩
theorem ml_L_181 : Cond.methodLink RL 181 yX7_onWay ∈ GW := gwp 1351 (by decide +kernel) rfl
theorem cw_X7_onWay : CwV RX7 yX7_onWay cX7_onWay 4 (some .int) 3 := ⟨gwp 1354 (by decide +kernel) rfl, gwp 1352 (by decide +kernel) rfl, gwp 1353 (by decide +kernel) rfl, gwp 9 (by decide +kernel) rfl, by decide +kernel⟩
theorem ml_L_184 : Cond.methodLink RL 184 yX7_meet ∈ GW := gwp 1355 (by decide +kernel) rfl
theorem cw_X7_meet : CwV RX7 yX7_meet cX7_meet 3 (some .int) 2 := ⟨gwp 1358 (by decide +kernel) rfl, gwp 1356 (by decide +kernel) rfl, gwp 1357 (by decide +kernel) rfl, gwp 9 (by decide +kernel) rfl, by decide +kernel⟩
theorem ml_L_187 : Cond.methodLink RL 187 yX7_sum ∈ GW := gwp 1359 (by decide +kernel) rfl
theorem ml_L_190 : Cond.methodLink RL 190 yX7_sumAgain ∈ GW := gwp 1363 (by decide +kernel) rfl
theorem cw_X7_sumAgain : CwV RX7 yX7_sumAgain cX7_sumAgain 3 (some .int) 2 := ⟨gwp 1366 (by decide +kernel) rfl, gwp 1364 (by decide +kernel) rfl, gwp 1365 (by decide +kernel) rfl, gwp 9 (by decide +kernel) rfl, by decide +kernel⟩
theorem ml_L_193 : Cond.methodLink RL 193 yX7_dearest ∈ GW := gwp 1368 (by decide +kernel) rfl
theorem cw_X7_dearest : CwV RX7 yX7_dearest cX7_dearest 5 (some .int) 2 := ⟨gwp 1371 (by decide +kernel) rfl, gwp 1369 (by decide +kernel) rfl, gwp 1370 (by decide +kernel) rfl, gwp 9 (by decide +kernel) rfl, by decide +kernel⟩
theorem ml_L_196 : Cond.methodLink RL 196 yX7_isJoined ∈ GW := gwp 1372 (by decide +kernel) rfl
theorem cw_X7_isJoined : CwV RX7 yX7_isJoined cX7_isJoined 3 (some .boolean) 2 := ⟨gwp 1375 (by decide +kernel) rfl, gwp 1373 (by decide +kernel) rfl, gwp 1374 (by decide +kernel) rfl, gwp 9 (by decide +kernel) rfl, by decide +kernel⟩
theorem ml_L_199 : Cond.methodLink RL 199 yX7_isTrack ∈ GW := gwp 1376 (by decide +kernel) rfl
theorem cw_X7_isTrack : CwV RX7 yX7_isTrack cX7_isTrack 3 (some .boolean) 2 := ⟨gwp 1379 (by decide +kernel) rfl, gwp 1377 (by decide +kernel) rfl, gwp 1378 (by decide +kernel) rfl, gwp 9 (by decide +kernel) rfl, by decide +kernel⟩
theorem ml_L_202 : Cond.methodLink RL 202 yX7_exposed ∈ GW := gwp 1380 (by decide +kernel) rfl
theorem cw_X7_exposed : CwV RX7 yX7_exposed cX7_exposed 5 (some .int) 2 := ⟨gwp 1383 (by decide +kernel) rfl, gwp 1381 (by decide +kernel) rfl, gwp 1382 (by decide +kernel) rfl, gwp 9 (by decide +kernel) rfl, by decide +kernel⟩
theorem ml_L_205 : Cond.methodLink RL 205 yX7_wouldChange ∈ GW := gwp 1384 (by decide +kernel) rfl
theorem cw_X7_wouldChange : CwV RX7 yX7_wouldChange cX7_wouldChange 2 (some .int) 1 := ⟨gwp 1387 (by decide +kernel) rfl, gwp 1385 (by decide +kernel) rfl, gwp 1386 (by decide +kernel) rfl, gwp 9 (by decide +kernel) rfl, by decide +kernel⟩
theorem ml_L_206 : Cond.methodLink RL 206 yX6_trees ∈ GW := gwp 201 (by decide +kernel) rfl
theorem ml_L_209 : Cond.methodLink RL 209 yX7_trees ∈ GW := gwp 1388 (by decide +kernel) rfl
theorem cw_X7_trees : CwV RX7 yX7_trees cX7_trees 3 (some .int) 0 := ⟨gwp 1391 (by decide +kernel) rfl, gwp 1389 (by decide +kernel) rfl, gwp 1390 (by decide +kernel) rfl, gwp 9 (by decide +kernel) rfl, by decide +kernel⟩
theorem ml_L_212 : Cond.methodLink RL 212 yX7_size ∈ GW := gwp 1392 (by decide +kernel) rfl
theorem cw_X7_size : CwV RX7 yX7_size cX7_size 2 (some .int) 1 := ⟨gwp 1395 (by decide +kernel) rfl, gwp 1393 (by decide +kernel) rfl, gwp 1394 (by decide +kernel) rfl, gwp 9 (by decide +kernel) rfl, by decide +kernel⟩
theorem ml_L_215 : Cond.methodLink RL 215 yX7_farthest ∈ GW := gwp 1396 (by decide +kernel) rfl
theorem cw_X7_farthest : CwV RX7 yX7_farthest cX7_farthest 2 (some .int) 1 := ⟨gwp 1399 (by decide +kernel) rfl, gwp 1397 (by decide +kernel) rfl, gwp 1398 (by decide +kernel) rfl, gwp 9 (by decide +kernel) rfl, by decide +kernel⟩
theorem ml_L_218 : Cond.methodLink RL 218 yX7_longest ∈ GW := gwp 1408 (by decide +kernel) rfl
theorem cw_X7_longest : CwV RX7 yX7_longest cX7_longest 3 (some .int) 1 := ⟨gwp 1411 (by decide +kernel) rfl, gwp 1409 (by decide +kernel) rfl, gwp 1410 (by decide +kernel) rfl, gwp 9 (by decide +kernel) rfl, by decide +kernel⟩
theorem ml_L_221 : Cond.methodLink RL 221 yX7_wouldSplit ∈ GW := gwp 1412 (by decide +kernel) rfl
theorem cw_X7_wouldSplit : CwV RX7 yX7_wouldSplit cX7_wouldSplit 4 (some .int) 2 := ⟨gwp 1415 (by decide +kernel) rfl, gwp 1413 (by decide +kernel) rfl, gwp 1414 (by decide +kernel) rfl, gwp 9 (by decide +kernel) rfl, by decide +kernel⟩
theorem ml_L_224 : Cond.methodLink RL 224 yX7_drover ∈ GW := gwp 1416 (by decide +kernel) rfl
theorem cw_X7_drover : CwV RX7 yX7_drover cX7_drover 2 (some .int) 1 := ⟨gwp 1419 (by decide +kernel) rfl, gwp 1417 (by decide +kernel) rfl, gwp 1418 (by decide +kernel) rfl, gwp 9 (by decide +kernel) rfl, by decide +kernel⟩
theorem ml_L_227 : Cond.methodLink RL 227 yX7_ranked ∈ GW := gwp 1420 (by decide +kernel) rfl
theorem cw_X7_ranked : CwV RX7 yX7_ranked cX7_ranked 5 (some .int) 1 := ⟨gwp 1423 (by decide +kernel) rfl, gwp 1421 (by decide +kernel) rfl, gwp 1422 (by decide +kernel) rfl, gwp 9 (by decide +kernel) rfl, by decide +kernel⟩
theorem ml_L_231 : Cond.methodLink RL 231 yX7_append ∈ GW := gwp 1428 (by decide +kernel) rfl
theorem cw_X7_append : CwV RX7 yX7_append cX7_append 2 (some .int) 1 := ⟨gwp 1431 (by decide +kernel) rfl, gwp 1429 (by decide +kernel) rfl, gwp 1430 (by decide +kernel) rfl, gwp 9 (by decide +kernel) rfl, by decide +kernel⟩
theorem ml_L_235 : Cond.methodLink RL 235 yX7_commands ∈ GW := gwp 1432 (by decide +kernel) rfl
theorem cw_X7_commands : CwV RX7 yX7_commands cX7_commands 3 (some .int) 0 := ⟨gwp 1435 (by decide +kernel) rfl, gwp 1433 (by decide +kernel) rfl, gwp 1434 (by decide +kernel) rfl, gwp 9 (by decide +kernel) rfl, by decide +kernel⟩
theorem ml_L_236 : Cond.methodLink RL 236 yX6_faultPosition ∈ GW := gwp 213 (by decide +kernel) rfl
theorem cw_X6_faultPosition : CwV RX6 yX6_faultPosition cX6_faultPosition 1 (some .int) 0 := ⟨gwp 216 (by decide +kernel) rfl, gwp 214 (by decide +kernel) rfl, gwp 215 (by decide +kernel) rfl, gwp 1 (by decide +kernel) rfl, by decide +kernel⟩
theorem ml_L_239 : Cond.methodLink RL 239 yX7_faultPosition ∈ GW := gwp 1475 (by decide +kernel) rfl
theorem cw_X7_faultPosition : CwV RX7 yX7_faultPosition cX7_faultPosition 1 (some .int) 0 := ⟨gwp 1478 (by decide +kernel) rfl, gwp 1476 (by decide +kernel) rfl, gwp 1477 (by decide +kernel) rfl, gwp 9 (by decide +kernel) rfl, by decide +kernel⟩
theorem ml_L_242 : Cond.methodLink RL 242 yX7_reason ∈ GW := gwp 1479 (by decide +kernel) rfl
theorem cw_X7_reason : CwV RX7 yX7_reason cX7_reason 2 (some .int) 1 := ⟨gwp 1482 (by decide +kernel) rfl, gwp 1480 (by decide +kernel) rfl, gwp 1481 (by decide +kernel) rfl, gwp 9 (by decide +kernel) rfl, by decide +kernel⟩
theorem ml_L_245 : Cond.methodLink RL 245 yX7_way ∈ GW := gwp 1483 (by decide +kernel) rfl
theorem cw_X7_way : CwV RX7 yX7_way cX7_way 4 (some .int) 2 := ⟨gwp 1486 (by decide +kernel) rfl, gwp 1484 (by decide +kernel) rfl, gwp 1485 (by decide +kernel) rfl, gwp 9 (by decide +kernel) rfl, by decide +kernel⟩
theorem ml_L_248 : Cond.methodLink RL 248 yX7_tree ∈ GW := gwp 1495 (by decide +kernel) rfl
theorem cw_X7_tree : CwV RX7 yX7_tree cX7_tree 2 (some .int) 1 := ⟨gwp 1498 (by decide +kernel) rfl, gwp 1496 (by decide +kernel) rfl, gwp 1497 (by decide +kernel) rfl, gwp 9 (by decide +kernel) rfl, by decide +kernel⟩
theorem ml_L_251 : Cond.methodLink RL 251 yX7_character ∈ GW := gwp 1503 (by decide +kernel) rfl
theorem cw_X7_character : CwV RX7 yX7_character cX7_character 2 (some .char) 1 := ⟨gwp 1506 (by decide +kernel) rfl, gwp 1504 (by decide +kernel) rfl, gwp 1505 (by decide +kernel) rfl, gwp 9 (by decide +kernel) rfl, by decide +kernel⟩
theorem ml_L_254 : Cond.methodLink RL 254 yX7_meanToll ∈ GW := gwp 1507 (by decide +kernel) rfl
theorem cw_X7_meanToll : CwV RX7 yX7_meanToll cX7_meanToll 1 (some .int) 0 := ⟨gwp 1510 (by decide +kernel) rfl, gwp 1508 (by decide +kernel) rfl, gwp 1509 (by decide +kernel) rfl, gwp 9 (by decide +kernel) rfl, by decide +kernel⟩
theorem ml_L_258 : Cond.methodLink RL 258 yX7_paidShare ∈ GW := gwp 1525 (by decide +kernel) rfl
theorem cw_X7_paidShare : CwV RX7 yX7_paidShare cX7_paidShare 1 (some .double) 0 := ⟨gwp 1528 (by decide +kernel) rfl, gwp 1526 (by decide +kernel) rfl, gwp 1527 (by decide +kernel) rfl, gwp 9 (by decide +kernel) rfl, by decide +kernel⟩
theorem ml_L_261 : Cond.methodLink RL 261 yX7_account ∈ GW := gwp 1529 (by decide +kernel) rfl
theorem cw_X7_account : CwV RX7 yX7_account cX7_account 2 (some .int) 1 := ⟨gwp 1532 (by decide +kernel) rfl, gwp 1530 (by decide +kernel) rfl, gwp 1531 (by decide +kernel) rfl, gwp 9 (by decide +kernel) rfl, by decide +kernel⟩
theorem ml_L_264 : Cond.methodLink RL 264 yX7_undo ∈ GW := gwp 1541 (by decide +kernel) rfl
theorem cw_X7_undo : CwV RX7 yX7_undo cX7_undo 1 (some .int) 0 := ⟨gwp 1544 (by decide +kernel) rfl, gwp 1542 (by decide +kernel) rfl, gwp 1543 (by decide +kernel) rfl, gwp 9 (by decide +kernel) rfl, by decide +kernel⟩
theorem ml_L_265 : Cond.methodLink RL 265 yX6_save ∈ GW := gwp 217 (by decide +kernel) rfl
theorem cw_X6_save : CwV RX6 yX6_save cX6_save 1 (some .int) 0 := ⟨gwp 220 (by decide +kernel) rfl, gwp 218 (by decide +kernel) rfl, gwp 219 (by decide +kernel) rfl, gwp 1 (by decide +kernel) rfl, by decide +kernel⟩
theorem ml_L_268 : Cond.methodLink RL 268 yX7_save ∈ GW := gwp 1545 (by decide +kernel) rfl
theorem cw_X7_save : CwV RX7 yX7_save cX7_save 1 (some .int) 0 := ⟨gwp 1548 (by decide +kernel) rfl, gwp 1546 (by decide +kernel) rfl, gwp 1547 (by decide +kernel) rfl, gwp 9 (by decide +kernel) rfl, by decide +kernel⟩
theorem ml_L_271 : Cond.methodLink RL 271 yX7_restore ∈ GW := gwp 1549 (by decide +kernel) rfl
theorem cw_X7_restore : CwV RX7 yX7_restore cX7_restore 1 (some .int) 0 := ⟨gwp 1552 (by decide +kernel) rfl, gwp 1550 (by decide +kernel) rfl, gwp 1551 (by decide +kernel) rfl, gwp 9 (by decide +kernel) rfl, by decide +kernel⟩
theorem mh_L_255 : Cond.methodLink RL 255 yL_paidShare ∈ GW := gwp 1058 (by decide +kernel) rfl
def p_lc_0 (xs : Nat → Int32) (L : Nat) (i : Int32) (σ : Sg) : Option Sg := if ib (i + 1) L then ((p_L_farm (xs (i + 1).toNatClampNeg) σ).bind fun r2 => if ib (i + 1) L then ((p_X7_farm (xs (i + 1).toNatClampNeg) r2.2).bind fun r4 => (p_X7_thrown  r4.2).bind fun r5 => if r5 = r2.1 then (if r2.1 = 0 then (if (lg_cmp (gL r4.2) r4.1.toInt64) = 0 then (some r4.2) else (none)) else (some r4.2)) else (none)) else none) else none
set_option maxRecDepth 20000 in
set_option maxHeartbeats 1000000 in
theorem s_lc_0 {l : Launch} {D : va_G} {ty : Nat → ClassId} {ρ : Nat → Nat → Nat} {N0 : Nat} (S : St l ty ρ N0) {xs : Nat → Int32} {L b : Nat} (i : Int32) (σ σ9 : Sg) (h : p_lc_0 xs L i σ = some σ9) {p : Program} {e : Env} {s : State} {m : MethodId} {args : Array Value} {below : List Frame} {meth : Method} {c : Code} {Q : State → Prop} (K : Cx p l s m args meth c code 9 RL ret D ty ρ N0) (hX : va_X b L xs s s.heap) (hbl : b < s.heap.size) (hbA : ¬ N0 ≤ b) {cs ss : Nat} (hcs : cs + 20 ≤ 603072) (hss : ss + 120 ≤ 7207018) (hk : ∀ c9 s9, c9 ≤ cs + 20 → s9 ≤ ss + 120 → WA p l e room_1 s m args below meth c D ty ρ N0 9 Q 2476 [some (.ref b), some (.ref (ρ 0 0)), some (.ref (ρ 20 0)), some (.ref (ρ 30 0)), some (.ref (ρ 31 0)), some (.int i), none, none, none] [] σ9 c9 s9) : WA p l e room_1 s m args below meth c D ty ρ N0 9 Q 216 [some (.ref b), some (.ref (ρ 0 0)), some (.ref (ρ 20 0)), some (.ref (ρ 30 0)), some (.ref (ρ 31 0)), some (.int i), none, none, none] [] σ cs ss := by
  have dq := @tat _ _ dt_law
  unfold p_lc_0 at h
  refine a_aload_n K (dq 28 rfl) rfl rfl ?_
  refine a_aload_n K (dq 29 rfl) rfl rfl ?_
  refine a_iload K (dq 30 rfl) rfl ?_
  refine a_iconst K (dq 31 rfl) (v := 1) rfl ?_
  refine a_iadd K (dq 32 rfl) ?_
  obtain ⟨c1, h⟩ := ib_some h
  refine a_sld K hX hbl hbA c1 (dq 33 rfl) ?_
  refine a_aload_n K (dq 34 rfl) rfl rfl ?_
  obtain ⟨r2, h2, h⟩ := bnd h
  refine a_callH K (s_L_farm S (xs (i + 1).toNatClampNeg) σ r2 h2) cw_L_farm mh_L_141 (by decide) rfl (rest := []) rfl (Nat.le_of_ble_eq_true rfl) (dq 35 rfl) (by constructor <;> (simp only [rmk, room_1]; omega)) ?_
  refine a_istore K (dq 36 rfl) (Nat.le_of_ble_eq_true rfl) (ls' := [some (.ref b), some (.ref (ρ 0 0)), some (.ref (ρ 20 0)), some (.ref (ρ 30 0)), some (.ref (ρ 31 0)), some (.int i), some (.int r2.1), none, none]) rfl ?_
  refine a_aload_n K (dq 37 rfl) rfl rfl ?_
  refine a_aload_n K (dq 38 rfl) rfl rfl ?_
  refine a_iload K (dq 39 rfl) rfl ?_
  refine a_iconst K (dq 40 rfl) (v := 1) rfl ?_
  refine a_iadd K (dq 41 rfl) ?_
  obtain ⟨c3, h⟩ := ib_some h
  refine a_sld K hX hbl hbA c3 (dq 42 rfl) ?_
  obtain ⟨r4, h4, h⟩ := bnd h
  refine a_callVi K (s_X7_farm S (xs (i + 1).toNatClampNeg) r2.2 r4 h4) v_20 rfl rfl cw_X7_farm ml_L_146 (by decide) rfl (rest := []) rfl (Nat.le_of_ble_eq_true rfl) (dq 43 rfl) (by constructor <;> (simp only [rmk, room_1]; omega)) ?_
  refine a_istore K (dq 44 rfl) (Nat.le_of_ble_eq_true rfl) (ls' := [some (.ref b), some (.ref (ρ 0 0)), some (.ref (ρ 20 0)), some (.ref (ρ 30 0)), some (.ref (ρ 31 0)), some (.int i), some (.int r2.1), some (.int r4.1), none]) rfl ?_
  refine a_aload_n K (dq 45 rfl) rfl rfl ?_
  obtain ⟨r5, h5, h⟩ := bnd h
  refine a_callVi K (s_X7_thrown S  r4.2 r5 h5) v_20 rfl rfl cw_X7_thrown ml_L_147 (by decide) rfl (rest := []) rfl (Nat.le_of_ble_eq_true rfl) (dq 46 rfl) (by constructor <;> (simp only [rmk, room_1]; omega)) ?_
  refine a_iload K (dq 47 rfl) rfl ?_
  refine a_icmp_eq K (tgt := 252) (dq 48 rfl) rfl (fun c6 => ?_) (fun c6 => ?_)
  · have h := ite_t c6 h
    refine a_iload K (dq 51 rfl) rfl ?_
    refine a_if_ne K (tgt := 269) (dq 52 rfl) rfl (fun c7 => ?_) (fun c7 => ?_)
    · have h := ite_f c7 h
      refine a_goto K (tgt := 2476) (dq 62 rfl) rfl ?_
      obtain rfl := Option.some.inj h
      refine a_le2 (ls' := [some (.ref b), some (.ref (ρ 0 0)), some (.ref (ρ 20 0)), some (.ref (ρ 30 0)), some (.ref (ρ 31 0)), some (.int i), none, none, none]) ⟨rfl, rfl, rfl, rfl, rfl, rfl, trivial⟩ ?_
      exact hk _ _ (by simp only [rmk]; omega) (by simp only [rmk]; omega)
    · have h := ite_t c7 h
      refine a_aload_n K (dq 53 rfl) rfl rfl ?_
      refine a_iconst K (dq 54 rfl) (v := 0) rfl ?_
      refine a_lald K (dq 55 rfl) ?_
      refine a_iload K (dq 56 rfl) rfl ?_
      refine a_i2l K (dq 57 rfl) ?_
      refine a_lcmp K (dq 58 rfl) ?_
      refine a_if_eq K (tgt := 269) (dq 59 rfl) rfl (fun c8 => ?_) (fun c8 => ?_)
      · have h := ite_t c8 h
        refine a_goto K (tgt := 2476) (dq 62 rfl) rfl ?_
        obtain rfl := Option.some.inj h
        refine a_le2 (ls' := [some (.ref b), some (.ref (ρ 0 0)), some (.ref (ρ 20 0)), some (.ref (ρ 30 0)), some (.ref (ρ 31 0)), some (.int i), none, none, none]) ⟨rfl, rfl, rfl, rfl, rfl, rfl, trivial⟩ ?_
        exact hk _ _ (by simp only [rmk]; omega) (by simp only [rmk]; omega)
      · have h := ite_f c8 h
        refine a_iconst K (dq 60 rfl) (v := 0) rfl ?_
        cases h
  · have h := ite_f c6 h
    refine a_iconst K (dq 49 rfl) (v := 0) rfl ?_
    cases h
def p_lc_1 (xs : Nat → Int32) (L : Nat) (i : Int32) (σ : Sg) : Option Sg := if ib (i + 1) L then (if ib (i + 2) L then ((p_L_lay (xs (i + 1).toNatClampNeg) (xs (i + 2).toNatClampNeg) σ).bind fun r3 => if ib (i + 1) L then (if ib (i + 2) L then ((p_X7_lay (xs (i + 1).toNatClampNeg) (xs (i + 2).toNatClampNeg) r3.2).bind fun r6 => (p_X7_thrown  r6.2).bind fun r7 => if r7 = r3.1 then (if r3.1 = 0 then (if (lg_cmp (gL r6.2) r6.1.toInt64) = 0 then (some r6.2) else (none)) else (some r6.2)) else (none)) else none) else none) else none) else none
set_option maxRecDepth 20000 in
set_option maxHeartbeats 1000000 in
theorem s_lc_1 {l : Launch} {D : va_G} {ty : Nat → ClassId} {ρ : Nat → Nat → Nat} {N0 : Nat} (S : St l ty ρ N0) {xs : Nat → Int32} {L b : Nat} (i : Int32) (σ σ9 : Sg) (h : p_lc_1 xs L i σ = some σ9) {p : Program} {e : Env} {s : State} {m : MethodId} {args : Array Value} {below : List Frame} {meth : Method} {c : Code} {Q : State → Prop} (K : Cx p l s m args meth c code 9 RL ret D ty ρ N0) (hX : va_X b L xs s s.heap) (hbl : b < s.heap.size) (hbA : ¬ N0 ≤ b) {cs ss : Nat} (hcs : cs + 20 ≤ 603072) (hss : ss + 120 ≤ 7207018) (hk : ∀ c9 s9, c9 ≤ cs + 20 → s9 ≤ ss + 120 → WA p l e room_1 s m args below meth c D ty ρ N0 9 Q 2476 [some (.ref b), some (.ref (ρ 0 0)), some (.ref (ρ 20 0)), some (.ref (ρ 30 0)), some (.ref (ρ 31 0)), some (.int i), none, none, none] [] σ9 c9 s9) : WA p l e room_1 s m args below meth c D ty ρ N0 9 Q 272 [some (.ref b), some (.ref (ρ 0 0)), some (.ref (ρ 20 0)), some (.ref (ρ 30 0)), some (.ref (ρ 31 0)), some (.int i), none, none, none] [] σ cs ss := by
  have dq := @tat _ _ dt_law
  unfold p_lc_1 at h
  refine a_aload_n K (dq 63 rfl) rfl rfl ?_
  refine a_aload_n K (dq 64 rfl) rfl rfl ?_
  refine a_iload K (dq 65 rfl) rfl ?_
  refine a_iconst K (dq 66 rfl) (v := 1) rfl ?_
  refine a_iadd K (dq 67 rfl) ?_
  obtain ⟨c1, h⟩ := ib_some h
  refine a_sld K hX hbl hbA c1 (dq 68 rfl) ?_
  refine a_aload_n K (dq 69 rfl) rfl rfl ?_
  refine a_iload K (dq 70 rfl) rfl ?_
  refine a_iconst K (dq 71 rfl) (v := 2) rfl ?_
  refine a_iadd K (dq 72 rfl) ?_
  obtain ⟨c2, h⟩ := ib_some h
  refine a_sld K hX hbl hbA c2 (dq 73 rfl) ?_
  refine a_aload_n K (dq 74 rfl) rfl rfl ?_
  obtain ⟨r3, h3, h⟩ := bnd h
  refine a_callH K (s_L_lay S (xs (i + 1).toNatClampNeg) (xs (i + 2).toNatClampNeg) σ r3 h3) cw_L_lay mh_L_150 (by decide) rfl (rest := []) rfl (Nat.le_of_ble_eq_true rfl) (dq 75 rfl) (by constructor <;> (simp only [rmk, room_1]; omega)) ?_
  refine a_istore K (dq 76 rfl) (Nat.le_of_ble_eq_true rfl) (ls' := [some (.ref b), some (.ref (ρ 0 0)), some (.ref (ρ 20 0)), some (.ref (ρ 30 0)), some (.ref (ρ 31 0)), some (.int i), some (.int r3.1), none, none]) rfl ?_
  refine a_aload_n K (dq 77 rfl) rfl rfl ?_
  refine a_aload_n K (dq 78 rfl) rfl rfl ?_
  refine a_iload K (dq 79 rfl) rfl ?_
  refine a_iconst K (dq 80 rfl) (v := 1) rfl ?_
  refine a_iadd K (dq 81 rfl) ?_
  obtain ⟨c4, h⟩ := ib_some h
  refine a_sld K hX hbl hbA c4 (dq 82 rfl) ?_
  refine a_aload_n K (dq 83 rfl) rfl rfl ?_
  refine a_iload K (dq 84 rfl) rfl ?_
  refine a_iconst K (dq 85 rfl) (v := 2) rfl ?_
  refine a_iadd K (dq 86 rfl) ?_
  obtain ⟨c5, h⟩ := ib_some h
  refine a_sld K hX hbl hbA c5 (dq 87 rfl) ?_
  obtain ⟨r6, h6, h⟩ := bnd h
  refine a_callVi K (s_X7_lay S (xs (i + 1).toNatClampNeg) (xs (i + 2).toNatClampNeg) r3.2 r6 h6) v_20 rfl rfl cw_X7_lay ml_L_153 (by decide) rfl (rest := []) rfl (Nat.le_of_ble_eq_true rfl) (dq 88 rfl) (by constructor <;> (simp only [rmk, room_1]; omega)) ?_
  refine a_istore K (dq 89 rfl) (Nat.le_of_ble_eq_true rfl) (ls' := [some (.ref b), some (.ref (ρ 0 0)), some (.ref (ρ 20 0)), some (.ref (ρ 30 0)), some (.ref (ρ 31 0)), some (.int i), some (.int r3.1), some (.int r6.1), none]) rfl ?_
  refine a_aload_n K (dq 90 rfl) rfl rfl ?_
  obtain ⟨r7, h7, h⟩ := bnd h
  refine a_callVi K (s_X7_thrown S  r6.2 r7 h7) v_20 rfl rfl cw_X7_thrown ml_L_147 (by decide) rfl (rest := []) rfl (Nat.le_of_ble_eq_true rfl) (dq 91 rfl) (by constructor <;> (simp only [rmk, room_1]; omega)) ?_
  refine a_iload K (dq 92 rfl) rfl ?_
  refine a_icmp_eq K (tgt := 320) (dq 93 rfl) rfl (fun c8 => ?_) (fun c8 => ?_)
  · have h := ite_t c8 h
    refine a_iload K (dq 96 rfl) rfl ?_
    refine a_if_ne K (tgt := 337) (dq 97 rfl) rfl (fun c9 => ?_) (fun c9 => ?_)
    · have h := ite_f c9 h
      refine a_goto K (tgt := 2476) (dq 107 rfl) rfl ?_
      obtain rfl := Option.some.inj h
      refine a_le2 (ls' := [some (.ref b), some (.ref (ρ 0 0)), some (.ref (ρ 20 0)), some (.ref (ρ 30 0)), some (.ref (ρ 31 0)), some (.int i), none, none, none]) ⟨rfl, rfl, rfl, rfl, rfl, rfl, trivial⟩ ?_
      exact hk _ _ (by simp only [rmk]; omega) (by simp only [rmk]; omega)
    · have h := ite_t c9 h
      refine a_aload_n K (dq 98 rfl) rfl rfl ?_
      refine a_iconst K (dq 99 rfl) (v := 0) rfl ?_
      refine a_lald K (dq 100 rfl) ?_
      refine a_iload K (dq 101 rfl) rfl ?_
      refine a_i2l K (dq 102 rfl) ?_
      refine a_lcmp K (dq 103 rfl) ?_
      refine a_if_eq K (tgt := 337) (dq 104 rfl) rfl (fun c10 => ?_) (fun c10 => ?_)
      · have h := ite_t c10 h
        refine a_goto K (tgt := 2476) (dq 107 rfl) rfl ?_
        obtain rfl := Option.some.inj h
        refine a_le2 (ls' := [some (.ref b), some (.ref (ρ 0 0)), some (.ref (ρ 20 0)), some (.ref (ρ 30 0)), some (.ref (ρ 31 0)), some (.int i), none, none, none]) ⟨rfl, rfl, rfl, rfl, rfl, rfl, trivial⟩ ?_
        exact hk _ _ (by simp only [rmk]; omega) (by simp only [rmk]; omega)
      · have h := ite_f c10 h
        refine a_iconst K (dq 105 rfl) (v := 0) rfl ?_
        cases h
  · have h := ite_f c8 h
    refine a_iconst K (dq 94 rfl) (v := 0) rfl ?_
    cases h
def p_lc_2 (xs : Nat → Int32) (L : Nat) (i : Int32) (σ : Sg) : Option Sg := if ib (i + 1) L then (if ib (i + 2) L then ((p_L_giveUp (xs (i + 1).toNatClampNeg) (xs (i + 2).toNatClampNeg) σ).bind fun r3 => if ib (i + 1) L then (if ib (i + 2) L then ((p_X7_giveUp (xs (i + 1).toNatClampNeg) (xs (i + 2).toNatClampNeg) r3.2).bind fun r6 => (p_X7_thrown  r6.2).bind fun r7 => if r7 = r3.1 then (if r3.1 = 0 then (if (lg_cmp (gL r6.2) r6.1.toInt64) = 0 then (some r6.2) else (none)) else (some r6.2)) else (none)) else none) else none) else none) else none
set_option maxRecDepth 20000 in
set_option maxHeartbeats 1000000 in
theorem s_lc_2 {l : Launch} {D : va_G} {ty : Nat → ClassId} {ρ : Nat → Nat → Nat} {N0 : Nat} (S : St l ty ρ N0) {xs : Nat → Int32} {L b : Nat} (i : Int32) (σ σ9 : Sg) (h : p_lc_2 xs L i σ = some σ9) {p : Program} {e : Env} {s : State} {m : MethodId} {args : Array Value} {below : List Frame} {meth : Method} {c : Code} {Q : State → Prop} (K : Cx p l s m args meth c code 9 RL ret D ty ρ N0) (hX : va_X b L xs s s.heap) (hbl : b < s.heap.size) (hbA : ¬ N0 ≤ b) {cs ss : Nat} (hcs : cs + 20 ≤ 603072) (hss : ss + 120 ≤ 7207018) (hk : ∀ c9 s9, c9 ≤ cs + 20 → s9 ≤ ss + 120 → WA p l e room_1 s m args below meth c D ty ρ N0 9 Q 2476 [some (.ref b), some (.ref (ρ 0 0)), some (.ref (ρ 20 0)), some (.ref (ρ 30 0)), some (.ref (ρ 31 0)), some (.int i), none, none, none] [] σ9 c9 s9) : WA p l e room_1 s m args below meth c D ty ρ N0 9 Q 340 [some (.ref b), some (.ref (ρ 0 0)), some (.ref (ρ 20 0)), some (.ref (ρ 30 0)), some (.ref (ρ 31 0)), some (.int i), none, none, none] [] σ cs ss := by
  have dq := @tat _ _ dt_law
  unfold p_lc_2 at h
  refine a_aload_n K (dq 108 rfl) rfl rfl ?_
  refine a_aload_n K (dq 109 rfl) rfl rfl ?_
  refine a_iload K (dq 110 rfl) rfl ?_
  refine a_iconst K (dq 111 rfl) (v := 1) rfl ?_
  refine a_iadd K (dq 112 rfl) ?_
  obtain ⟨c1, h⟩ := ib_some h
  refine a_sld K hX hbl hbA c1 (dq 113 rfl) ?_
  refine a_aload_n K (dq 114 rfl) rfl rfl ?_
  refine a_iload K (dq 115 rfl) rfl ?_
  refine a_iconst K (dq 116 rfl) (v := 2) rfl ?_
  refine a_iadd K (dq 117 rfl) ?_
  obtain ⟨c2, h⟩ := ib_some h
  refine a_sld K hX hbl hbA c2 (dq 118 rfl) ?_
  refine a_aload_n K (dq 119 rfl) rfl rfl ?_
  obtain ⟨r3, h3, h⟩ := bnd h
  refine a_callH K (s_L_giveUp S (xs (i + 1).toNatClampNeg) (xs (i + 2).toNatClampNeg) σ r3 h3) cw_L_giveUp mh_L_154 (by decide) rfl (rest := []) rfl (Nat.le_of_ble_eq_true rfl) (dq 120 rfl) (by constructor <;> (simp only [rmk, room_1]; omega)) ?_
  refine a_istore K (dq 121 rfl) (Nat.le_of_ble_eq_true rfl) (ls' := [some (.ref b), some (.ref (ρ 0 0)), some (.ref (ρ 20 0)), some (.ref (ρ 30 0)), some (.ref (ρ 31 0)), some (.int i), some (.int r3.1), none, none]) rfl ?_
  refine a_aload_n K (dq 122 rfl) rfl rfl ?_
  refine a_aload_n K (dq 123 rfl) rfl rfl ?_
  refine a_iload K (dq 124 rfl) rfl ?_
  refine a_iconst K (dq 125 rfl) (v := 1) rfl ?_
  refine a_iadd K (dq 126 rfl) ?_
  obtain ⟨c4, h⟩ := ib_some h
  refine a_sld K hX hbl hbA c4 (dq 127 rfl) ?_
  refine a_aload_n K (dq 128 rfl) rfl rfl ?_
  refine a_iload K (dq 129 rfl) rfl ?_
  refine a_iconst K (dq 130 rfl) (v := 2) rfl ?_
  refine a_iadd K (dq 131 rfl) ?_
  obtain ⟨c5, h⟩ := ib_some h
  refine a_sld K hX hbl hbA c5 (dq 132 rfl) ?_
  obtain ⟨r6, h6, h⟩ := bnd h
  refine a_callVi K (s_X7_giveUp S (xs (i + 1).toNatClampNeg) (xs (i + 2).toNatClampNeg) r3.2 r6 h6) v_20 rfl rfl cw_X7_giveUp ml_L_156 (by decide) rfl (rest := []) rfl (Nat.le_of_ble_eq_true rfl) (dq 133 rfl) (by constructor <;> (simp only [rmk, room_1]; omega)) ?_
  refine a_istore K (dq 134 rfl) (Nat.le_of_ble_eq_true rfl) (ls' := [some (.ref b), some (.ref (ρ 0 0)), some (.ref (ρ 20 0)), some (.ref (ρ 30 0)), some (.ref (ρ 31 0)), some (.int i), some (.int r3.1), some (.int r6.1), none]) rfl ?_
  refine a_aload_n K (dq 135 rfl) rfl rfl ?_
  obtain ⟨r7, h7, h⟩ := bnd h
  refine a_callVi K (s_X7_thrown S  r6.2 r7 h7) v_20 rfl rfl cw_X7_thrown ml_L_147 (by decide) rfl (rest := []) rfl (Nat.le_of_ble_eq_true rfl) (dq 136 rfl) (by constructor <;> (simp only [rmk, room_1]; omega)) ?_
  refine a_iload K (dq 137 rfl) rfl ?_
  refine a_icmp_eq K (tgt := 388) (dq 138 rfl) rfl (fun c8 => ?_) (fun c8 => ?_)
  · have h := ite_t c8 h
    refine a_iload K (dq 141 rfl) rfl ?_
    refine a_if_ne K (tgt := 405) (dq 142 rfl) rfl (fun c9 => ?_) (fun c9 => ?_)
    · have h := ite_f c9 h
      refine a_goto K (tgt := 2476) (dq 152 rfl) rfl ?_
      obtain rfl := Option.some.inj h
      refine a_le2 (ls' := [some (.ref b), some (.ref (ρ 0 0)), some (.ref (ρ 20 0)), some (.ref (ρ 30 0)), some (.ref (ρ 31 0)), some (.int i), none, none, none]) ⟨rfl, rfl, rfl, rfl, rfl, rfl, trivial⟩ ?_
      exact hk _ _ (by simp only [rmk]; omega) (by simp only [rmk]; omega)
    · have h := ite_t c9 h
      refine a_aload_n K (dq 143 rfl) rfl rfl ?_
      refine a_iconst K (dq 144 rfl) (v := 0) rfl ?_
      refine a_lald K (dq 145 rfl) ?_
      refine a_iload K (dq 146 rfl) rfl ?_
      refine a_i2l K (dq 147 rfl) ?_
      refine a_lcmp K (dq 148 rfl) ?_
      refine a_if_eq K (tgt := 405) (dq 149 rfl) rfl (fun c10 => ?_) (fun c10 => ?_)
      · have h := ite_t c10 h
        refine a_goto K (tgt := 2476) (dq 152 rfl) rfl ?_
        obtain rfl := Option.some.inj h
        refine a_le2 (ls' := [some (.ref b), some (.ref (ρ 0 0)), some (.ref (ρ 20 0)), some (.ref (ρ 30 0)), some (.ref (ρ 31 0)), some (.int i), none, none, none]) ⟨rfl, rfl, rfl, rfl, rfl, rfl, trivial⟩ ?_
        exact hk _ _ (by simp only [rmk]; omega) (by simp only [rmk]; omega)
      · have h := ite_f c10 h
        refine a_iconst K (dq 150 rfl) (v := 0) rfl ?_
        cases h
  · have h := ite_f c8 h
    refine a_iconst K (dq 139 rfl) (v := 0) rfl ?_
    cases h
def p_lc_3 (xs : Nat → Int32) (L : Nat) (i : Int32) (σ : Sg) : Option Sg := if ib (i + 1) L then ((p_L_root (xs (i + 1).toNatClampNeg) σ).bind fun r2 => if ib (i + 1) L then ((p_X7_root (xs (i + 1).toNatClampNeg) r2.2).bind fun r4 => (p_X7_thrown  r4.2).bind fun r5 => if r5 = r2.1 then (if r2.1 = 0 then (if (lg_cmp (gL r4.2) r4.1.toInt64) = 0 then (some r4.2) else (none)) else (some r4.2)) else (none)) else none) else none
set_option maxRecDepth 20000 in
set_option maxHeartbeats 1000000 in
theorem s_lc_3 {l : Launch} {D : va_G} {ty : Nat → ClassId} {ρ : Nat → Nat → Nat} {N0 : Nat} (S : St l ty ρ N0) {xs : Nat → Int32} {L b : Nat} (i : Int32) (σ σ9 : Sg) (h : p_lc_3 xs L i σ = some σ9) {p : Program} {e : Env} {s : State} {m : MethodId} {args : Array Value} {below : List Frame} {meth : Method} {c : Code} {Q : State → Prop} (K : Cx p l s m args meth c code 9 RL ret D ty ρ N0) (hX : va_X b L xs s s.heap) (hbl : b < s.heap.size) (hbA : ¬ N0 ≤ b) {cs ss : Nat} (hcs : cs + 20 ≤ 603072) (hss : ss + 120 ≤ 7207018) (hk : ∀ c9 s9, c9 ≤ cs + 20 → s9 ≤ ss + 120 → WA p l e room_1 s m args below meth c D ty ρ N0 9 Q 2476 [some (.ref b), some (.ref (ρ 0 0)), some (.ref (ρ 20 0)), some (.ref (ρ 30 0)), some (.ref (ρ 31 0)), some (.int i), none, none, none] [] σ9 c9 s9) : WA p l e room_1 s m args below meth c D ty ρ N0 9 Q 408 [some (.ref b), some (.ref (ρ 0 0)), some (.ref (ρ 20 0)), some (.ref (ρ 30 0)), some (.ref (ρ 31 0)), some (.int i), none, none, none] [] σ cs ss := by
  have dq := @tat _ _ dt_law
  unfold p_lc_3 at h
  refine a_aload_n K (dq 153 rfl) rfl rfl ?_
  refine a_aload_n K (dq 154 rfl) rfl rfl ?_
  refine a_iload K (dq 155 rfl) rfl ?_
  refine a_iconst K (dq 156 rfl) (v := 1) rfl ?_
  refine a_iadd K (dq 157 rfl) ?_
  obtain ⟨c1, h⟩ := ib_some h
  refine a_sld K hX hbl hbA c1 (dq 158 rfl) ?_
  refine a_aload_n K (dq 159 rfl) rfl rfl ?_
  obtain ⟨r2, h2, h⟩ := bnd h
  refine a_callH K (s_L_root S (xs (i + 1).toNatClampNeg) σ r2 h2) cw_L_root mh_L_157 (by decide) rfl (rest := []) rfl (Nat.le_of_ble_eq_true rfl) (dq 160 rfl) (by constructor <;> (simp only [rmk, room_1]; omega)) ?_
  refine a_istore K (dq 161 rfl) (Nat.le_of_ble_eq_true rfl) (ls' := [some (.ref b), some (.ref (ρ 0 0)), some (.ref (ρ 20 0)), some (.ref (ρ 30 0)), some (.ref (ρ 31 0)), some (.int i), some (.int r2.1), none, none]) rfl ?_
  refine a_aload_n K (dq 162 rfl) rfl rfl ?_
  refine a_aload_n K (dq 163 rfl) rfl rfl ?_
  refine a_iload K (dq 164 rfl) rfl ?_
  refine a_iconst K (dq 165 rfl) (v := 1) rfl ?_
  refine a_iadd K (dq 166 rfl) ?_
  obtain ⟨c3, h⟩ := ib_some h
  refine a_sld K hX hbl hbA c3 (dq 167 rfl) ?_
  obtain ⟨r4, h4, h⟩ := bnd h
  refine a_callVi K (s_X7_root S (xs (i + 1).toNatClampNeg) r2.2 r4 h4) v_20 rfl rfl cw_X7_root ml_L_159 (by decide) rfl (rest := []) rfl (Nat.le_of_ble_eq_true rfl) (dq 168 rfl) (by constructor <;> (simp only [rmk, room_1]; omega)) ?_
  refine a_istore K (dq 169 rfl) (Nat.le_of_ble_eq_true rfl) (ls' := [some (.ref b), some (.ref (ρ 0 0)), some (.ref (ρ 20 0)), some (.ref (ρ 30 0)), some (.ref (ρ 31 0)), some (.int i), some (.int r2.1), some (.int r4.1), none]) rfl ?_
  refine a_aload_n K (dq 170 rfl) rfl rfl ?_
  obtain ⟨r5, h5, h⟩ := bnd h
  refine a_callVi K (s_X7_thrown S  r4.2 r5 h5) v_20 rfl rfl cw_X7_thrown ml_L_147 (by decide) rfl (rest := []) rfl (Nat.le_of_ble_eq_true rfl) (dq 171 rfl) (by constructor <;> (simp only [rmk, room_1]; omega)) ?_
  refine a_iload K (dq 172 rfl) rfl ?_
  refine a_icmp_eq K (tgt := 444) (dq 173 rfl) rfl (fun c6 => ?_) (fun c6 => ?_)
  · have h := ite_t c6 h
    refine a_iload K (dq 176 rfl) rfl ?_
    refine a_if_ne K (tgt := 461) (dq 177 rfl) rfl (fun c7 => ?_) (fun c7 => ?_)
    · have h := ite_f c7 h
      refine a_goto K (tgt := 2476) (dq 187 rfl) rfl ?_
      obtain rfl := Option.some.inj h
      refine a_le2 (ls' := [some (.ref b), some (.ref (ρ 0 0)), some (.ref (ρ 20 0)), some (.ref (ρ 30 0)), some (.ref (ρ 31 0)), some (.int i), none, none, none]) ⟨rfl, rfl, rfl, rfl, rfl, rfl, trivial⟩ ?_
      exact hk _ _ (by simp only [rmk]; omega) (by simp only [rmk]; omega)
    · have h := ite_t c7 h
      refine a_aload_n K (dq 178 rfl) rfl rfl ?_
      refine a_iconst K (dq 179 rfl) (v := 0) rfl ?_
      refine a_lald K (dq 180 rfl) ?_
      refine a_iload K (dq 181 rfl) rfl ?_
      refine a_i2l K (dq 182 rfl) ?_
      refine a_lcmp K (dq 183 rfl) ?_
      refine a_if_eq K (tgt := 461) (dq 184 rfl) rfl (fun c8 => ?_) (fun c8 => ?_)
      · have h := ite_t c8 h
        refine a_goto K (tgt := 2476) (dq 187 rfl) rfl ?_
        obtain rfl := Option.some.inj h
        refine a_le2 (ls' := [some (.ref b), some (.ref (ρ 0 0)), some (.ref (ρ 20 0)), some (.ref (ρ 30 0)), some (.ref (ρ 31 0)), some (.int i), none, none, none]) ⟨rfl, rfl, rfl, rfl, rfl, rfl, trivial⟩ ?_
        exact hk _ _ (by simp only [rmk]; omega) (by simp only [rmk]; omega)
      · have h := ite_f c8 h
        refine a_iconst K (dq 185 rfl) (v := 0) rfl ?_
        cases h
  · have h := ite_f c6 h
    refine a_iconst K (dq 174 rfl) (v := 0) rfl ?_
    cases h
def p_lc_4 (xs : Nat → Int32) (L : Nat) (i : Int32) (σ : Sg) : Option Sg := if ib (i + 1) L then ((p_L_expose (xs (i + 1).toNatClampNeg) σ).bind fun r2 => if ib (i + 1) L then ((p_X7_expose (xs (i + 1).toNatClampNeg) r2.2).bind fun r4 => (p_X7_thrown  r4.2).bind fun r5 => if r5 = r2.1 then (if r2.1 = 0 then (if (lg_cmp (gL r4.2) r4.1.toInt64) = 0 then (some r4.2) else (none)) else (some r4.2)) else (none)) else none) else none
set_option maxRecDepth 20000 in
set_option maxHeartbeats 1000000 in
theorem s_lc_4 {l : Launch} {D : va_G} {ty : Nat → ClassId} {ρ : Nat → Nat → Nat} {N0 : Nat} (S : St l ty ρ N0) {xs : Nat → Int32} {L b : Nat} (i : Int32) (σ σ9 : Sg) (h : p_lc_4 xs L i σ = some σ9) {p : Program} {e : Env} {s : State} {m : MethodId} {args : Array Value} {below : List Frame} {meth : Method} {c : Code} {Q : State → Prop} (K : Cx p l s m args meth c code 9 RL ret D ty ρ N0) (hX : va_X b L xs s s.heap) (hbl : b < s.heap.size) (hbA : ¬ N0 ≤ b) {cs ss : Nat} (hcs : cs + 20 ≤ 603072) (hss : ss + 120 ≤ 7207018) (hk : ∀ c9 s9, c9 ≤ cs + 20 → s9 ≤ ss + 120 → WA p l e room_1 s m args below meth c D ty ρ N0 9 Q 2476 [some (.ref b), some (.ref (ρ 0 0)), some (.ref (ρ 20 0)), some (.ref (ρ 30 0)), some (.ref (ρ 31 0)), some (.int i), none, none, none] [] σ9 c9 s9) : WA p l e room_1 s m args below meth c D ty ρ N0 9 Q 464 [some (.ref b), some (.ref (ρ 0 0)), some (.ref (ρ 20 0)), some (.ref (ρ 30 0)), some (.ref (ρ 31 0)), some (.int i), none, none, none] [] σ cs ss := by
  have dq := @tat _ _ dt_law
  unfold p_lc_4 at h
  refine a_aload_n K (dq 188 rfl) rfl rfl ?_
  refine a_aload_n K (dq 189 rfl) rfl rfl ?_
  refine a_iload K (dq 190 rfl) rfl ?_
  refine a_iconst K (dq 191 rfl) (v := 1) rfl ?_
  refine a_iadd K (dq 192 rfl) ?_
  obtain ⟨c1, h⟩ := ib_some h
  refine a_sld K hX hbl hbA c1 (dq 193 rfl) ?_
  refine a_aload_n K (dq 194 rfl) rfl rfl ?_
  obtain ⟨r2, h2, h⟩ := bnd h
  refine a_callH K (s_L_expose S (xs (i + 1).toNatClampNeg) σ r2 h2) cw_L_expose mh_L_160 (by decide) rfl (rest := []) rfl (Nat.le_of_ble_eq_true rfl) (dq 195 rfl) (by constructor <;> (simp only [rmk, room_1]; omega)) ?_
  refine a_istore K (dq 196 rfl) (Nat.le_of_ble_eq_true rfl) (ls' := [some (.ref b), some (.ref (ρ 0 0)), some (.ref (ρ 20 0)), some (.ref (ρ 30 0)), some (.ref (ρ 31 0)), some (.int i), some (.int r2.1), none, none]) rfl ?_
  refine a_aload_n K (dq 197 rfl) rfl rfl ?_
  refine a_aload_n K (dq 198 rfl) rfl rfl ?_
  refine a_iload K (dq 199 rfl) rfl ?_
  refine a_iconst K (dq 200 rfl) (v := 1) rfl ?_
  refine a_iadd K (dq 201 rfl) ?_
  obtain ⟨c3, h⟩ := ib_some h
  refine a_sld K hX hbl hbA c3 (dq 202 rfl) ?_
  obtain ⟨r4, h4, h⟩ := bnd h
  refine a_callVi K (s_X7_expose S (xs (i + 1).toNatClampNeg) r2.2 r4 h4) v_20 rfl rfl cw_X7_expose ml_L_162 (by decide) rfl (rest := []) rfl (Nat.le_of_ble_eq_true rfl) (dq 203 rfl) (by constructor <;> (simp only [rmk, room_1]; omega)) ?_
  refine a_istore K (dq 204 rfl) (Nat.le_of_ble_eq_true rfl) (ls' := [some (.ref b), some (.ref (ρ 0 0)), some (.ref (ρ 20 0)), some (.ref (ρ 30 0)), some (.ref (ρ 31 0)), some (.int i), some (.int r2.1), some (.int r4.1), none]) rfl ?_
  refine a_aload_n K (dq 205 rfl) rfl rfl ?_
  obtain ⟨r5, h5, h⟩ := bnd h
  refine a_callVi K (s_X7_thrown S  r4.2 r5 h5) v_20 rfl rfl cw_X7_thrown ml_L_147 (by decide) rfl (rest := []) rfl (Nat.le_of_ble_eq_true rfl) (dq 206 rfl) (by constructor <;> (simp only [rmk, room_1]; omega)) ?_
  refine a_iload K (dq 207 rfl) rfl ?_
  refine a_icmp_eq K (tgt := 500) (dq 208 rfl) rfl (fun c6 => ?_) (fun c6 => ?_)
  · have h := ite_t c6 h
    refine a_iload K (dq 211 rfl) rfl ?_
    refine a_if_ne K (tgt := 517) (dq 212 rfl) rfl (fun c7 => ?_) (fun c7 => ?_)
    · have h := ite_f c7 h
      refine a_goto K (tgt := 2476) (dq 222 rfl) rfl ?_
      obtain rfl := Option.some.inj h
      refine a_le2 (ls' := [some (.ref b), some (.ref (ρ 0 0)), some (.ref (ρ 20 0)), some (.ref (ρ 30 0)), some (.ref (ρ 31 0)), some (.int i), none, none, none]) ⟨rfl, rfl, rfl, rfl, rfl, rfl, trivial⟩ ?_
      exact hk _ _ (by simp only [rmk]; omega) (by simp only [rmk]; omega)
    · have h := ite_t c7 h
      refine a_aload_n K (dq 213 rfl) rfl rfl ?_
      refine a_iconst K (dq 214 rfl) (v := 0) rfl ?_
      refine a_lald K (dq 215 rfl) ?_
      refine a_iload K (dq 216 rfl) rfl ?_
      refine a_i2l K (dq 217 rfl) ?_
      refine a_lcmp K (dq 218 rfl) ?_
      refine a_if_eq K (tgt := 517) (dq 219 rfl) rfl (fun c8 => ?_) (fun c8 => ?_)
      · have h := ite_t c8 h
        refine a_goto K (tgt := 2476) (dq 222 rfl) rfl ?_
        obtain rfl := Option.some.inj h
        refine a_le2 (ls' := [some (.ref b), some (.ref (ρ 0 0)), some (.ref (ρ 20 0)), some (.ref (ρ 30 0)), some (.ref (ρ 31 0)), some (.int i), none, none, none]) ⟨rfl, rfl, rfl, rfl, rfl, rfl, trivial⟩ ?_
        exact hk _ _ (by simp only [rmk]; omega) (by simp only [rmk]; omega)
      · have h := ite_f c8 h
        refine a_iconst K (dq 220 rfl) (v := 0) rfl ?_
        cases h
  · have h := ite_f c6 h
    refine a_iconst K (dq 209 rfl) (v := 0) rfl ?_
    cases h
def p_lc_5 (xs : Nat → Int32) (L : Nat) (i : Int32) (σ : Sg) : Option Sg := if ib (i + 1) L then (if ib (i + 2) L then (if ib (i + 3) L then ((p_L_charge (xs (i + 1).toNatClampNeg) (xs (i + 2).toNatClampNeg) (xs (i + 3).toNatClampNeg) σ).bind fun r4 => if ib (i + 1) L then (if ib (i + 2) L then (if ib (i + 3) L then ((p_X7_charge (xs (i + 1).toNatClampNeg) (xs (i + 2).toNatClampNeg) (xs (i + 3).toNatClampNeg) r4.2).bind fun r8 => (p_X7_thrown  r8.2).bind fun r9 => if r9 = r4.1 then (if r4.1 = 0 then (if (lg_cmp (gL r8.2) r8.1.toInt64) = 0 then (some r8.2) else (none)) else (some r8.2)) else (none)) else none) else none) else none) else none) else none) else none
set_option maxRecDepth 20000 in
set_option maxHeartbeats 1000000 in
theorem s_lc_5 {l : Launch} {D : va_G} {ty : Nat → ClassId} {ρ : Nat → Nat → Nat} {N0 : Nat} (S : St l ty ρ N0) {xs : Nat → Int32} {L b : Nat} (i : Int32) (σ σ9 : Sg) (h : p_lc_5 xs L i σ = some σ9) {p : Program} {e : Env} {s : State} {m : MethodId} {args : Array Value} {below : List Frame} {meth : Method} {c : Code} {Q : State → Prop} (K : Cx p l s m args meth c code 9 RL ret D ty ρ N0) (hX : va_X b L xs s s.heap) (hbl : b < s.heap.size) (hbA : ¬ N0 ≤ b) {cs ss : Nat} (hcs : cs + 20 ≤ 603072) (hss : ss + 120 ≤ 7207018) (hk : ∀ c9 s9, c9 ≤ cs + 20 → s9 ≤ ss + 120 → WA p l e room_1 s m args below meth c D ty ρ N0 9 Q 2476 [some (.ref b), some (.ref (ρ 0 0)), some (.ref (ρ 20 0)), some (.ref (ρ 30 0)), some (.ref (ρ 31 0)), some (.int i), none, none, none] [] σ9 c9 s9) : WA p l e room_1 s m args below meth c D ty ρ N0 9 Q 520 [some (.ref b), some (.ref (ρ 0 0)), some (.ref (ρ 20 0)), some (.ref (ρ 30 0)), some (.ref (ρ 31 0)), some (.int i), none, none, none] [] σ cs ss := by
  have dq := @tat _ _ dt_law
  unfold p_lc_5 at h
  refine a_aload_n K (dq 223 rfl) rfl rfl ?_
  refine a_aload_n K (dq 224 rfl) rfl rfl ?_
  refine a_iload K (dq 225 rfl) rfl ?_
  refine a_iconst K (dq 226 rfl) (v := 1) rfl ?_
  refine a_iadd K (dq 227 rfl) ?_
  obtain ⟨c1, h⟩ := ib_some h
  refine a_sld K hX hbl hbA c1 (dq 228 rfl) ?_
  refine a_aload_n K (dq 229 rfl) rfl rfl ?_
  refine a_iload K (dq 230 rfl) rfl ?_
  refine a_iconst K (dq 231 rfl) (v := 2) rfl ?_
  refine a_iadd K (dq 232 rfl) ?_
  obtain ⟨c2, h⟩ := ib_some h
  refine a_sld K hX hbl hbA c2 (dq 233 rfl) ?_
  refine a_aload_n K (dq 234 rfl) rfl rfl ?_
  refine a_iload K (dq 235 rfl) rfl ?_
  refine a_iconst K (dq 236 rfl) (v := 3) rfl ?_
  refine a_iadd K (dq 237 rfl) ?_
  obtain ⟨c3, h⟩ := ib_some h
  refine a_sld K hX hbl hbA c3 (dq 238 rfl) ?_
  refine a_aload_n K (dq 239 rfl) rfl rfl ?_
  obtain ⟨r4, h4, h⟩ := bnd h
  refine a_callH K (s_L_charge S (xs (i + 1).toNatClampNeg) (xs (i + 2).toNatClampNeg) (xs (i + 3).toNatClampNeg) σ r4 h4) cw_L_charge mh_L_163 (by decide) rfl (rest := []) rfl (Nat.le_of_ble_eq_true rfl) (dq 240 rfl) (by constructor <;> (simp only [rmk, room_1]; omega)) ?_
  refine a_istore K (dq 241 rfl) (Nat.le_of_ble_eq_true rfl) (ls' := [some (.ref b), some (.ref (ρ 0 0)), some (.ref (ρ 20 0)), some (.ref (ρ 30 0)), some (.ref (ρ 31 0)), some (.int i), some (.int r4.1), none, none]) rfl ?_
  refine a_aload_n K (dq 242 rfl) rfl rfl ?_
  refine a_aload_n K (dq 243 rfl) rfl rfl ?_
  refine a_iload K (dq 244 rfl) rfl ?_
  refine a_iconst K (dq 245 rfl) (v := 1) rfl ?_
  refine a_iadd K (dq 246 rfl) ?_
  obtain ⟨c5, h⟩ := ib_some h
  refine a_sld K hX hbl hbA c5 (dq 247 rfl) ?_
  refine a_aload_n K (dq 248 rfl) rfl rfl ?_
  refine a_iload K (dq 249 rfl) rfl ?_
  refine a_iconst K (dq 250 rfl) (v := 2) rfl ?_
  refine a_iadd K (dq 251 rfl) ?_
  obtain ⟨c6, h⟩ := ib_some h
  refine a_sld K hX hbl hbA c6 (dq 252 rfl) ?_
  refine a_aload_n K (dq 253 rfl) rfl rfl ?_
  refine a_iload K (dq 254 rfl) rfl ?_
  refine a_iconst K (dq 255 rfl) (v := 3) rfl ?_
  refine a_iadd K (dq 256 rfl) ?_
  obtain ⟨c7, h⟩ := ib_some h
  refine a_sld K hX hbl hbA c7 (dq 257 rfl) ?_
  obtain ⟨r8, h8, h⟩ := bnd h
  refine a_callVi K (s_X7_charge S (xs (i + 1).toNatClampNeg) (xs (i + 2).toNatClampNeg) (xs (i + 3).toNatClampNeg) r4.2 r8 h8) v_20 rfl rfl cw_X7_charge ml_L_166 (by decide) rfl (rest := []) rfl (Nat.le_of_ble_eq_true rfl) (dq 258 rfl) (by constructor <;> (simp only [rmk, room_1]; omega)) ?_
  refine a_istore K (dq 259 rfl) (Nat.le_of_ble_eq_true rfl) (ls' := [some (.ref b), some (.ref (ρ 0 0)), some (.ref (ρ 20 0)), some (.ref (ρ 30 0)), some (.ref (ρ 31 0)), some (.int i), some (.int r4.1), some (.int r8.1), none]) rfl ?_
  refine a_aload_n K (dq 260 rfl) rfl rfl ?_
  obtain ⟨r9, h9, h⟩ := bnd h
  refine a_callVi K (s_X7_thrown S  r8.2 r9 h9) v_20 rfl rfl cw_X7_thrown ml_L_147 (by decide) rfl (rest := []) rfl (Nat.le_of_ble_eq_true rfl) (dq 261 rfl) (by constructor <;> (simp only [rmk, room_1]; omega)) ?_
  refine a_iload K (dq 262 rfl) rfl ?_
  refine a_icmp_eq K (tgt := 580) (dq 263 rfl) rfl (fun c10 => ?_) (fun c10 => ?_)
  · have h := ite_t c10 h
    refine a_iload K (dq 266 rfl) rfl ?_
    refine a_if_ne K (tgt := 597) (dq 267 rfl) rfl (fun c11 => ?_) (fun c11 => ?_)
    · have h := ite_f c11 h
      refine a_goto K (tgt := 2476) (dq 277 rfl) rfl ?_
      obtain rfl := Option.some.inj h
      refine a_le2 (ls' := [some (.ref b), some (.ref (ρ 0 0)), some (.ref (ρ 20 0)), some (.ref (ρ 30 0)), some (.ref (ρ 31 0)), some (.int i), none, none, none]) ⟨rfl, rfl, rfl, rfl, rfl, rfl, trivial⟩ ?_
      exact hk _ _ (by simp only [rmk]; omega) (by simp only [rmk]; omega)
    · have h := ite_t c11 h
      refine a_aload_n K (dq 268 rfl) rfl rfl ?_
      refine a_iconst K (dq 269 rfl) (v := 0) rfl ?_
      refine a_lald K (dq 270 rfl) ?_
      refine a_iload K (dq 271 rfl) rfl ?_
      refine a_i2l K (dq 272 rfl) ?_
      refine a_lcmp K (dq 273 rfl) ?_
      refine a_if_eq K (tgt := 597) (dq 274 rfl) rfl (fun c12 => ?_) (fun c12 => ?_)
      · have h := ite_t c12 h
        refine a_goto K (tgt := 2476) (dq 277 rfl) rfl ?_
        obtain rfl := Option.some.inj h
        refine a_le2 (ls' := [some (.ref b), some (.ref (ρ 0 0)), some (.ref (ρ 20 0)), some (.ref (ρ 30 0)), some (.ref (ρ 31 0)), some (.int i), none, none, none]) ⟨rfl, rfl, rfl, rfl, rfl, rfl, trivial⟩ ?_
        exact hk _ _ (by simp only [rmk]; omega) (by simp only [rmk]; omega)
      · have h := ite_f c12 h
        refine a_iconst K (dq 275 rfl) (v := 0) rfl ?_
        cases h
  · have h := ite_f c10 h
    refine a_iconst K (dq 264 rfl) (v := 0) rfl ?_
    cases h
def p_lc_6 (xs : Nat → Int32) (L : Nat) (i : Int32) (σ : Sg) : Option Sg := if ib (i + 1) L then (if ib (i + 2) L then ((p_L_drive (xs (i + 1).toNatClampNeg) (xs (i + 2).toNatClampNeg) σ).bind fun r3 => if ib (i + 1) L then (if ib (i + 2) L then ((p_X7_drive (xs (i + 1).toNatClampNeg) (xs (i + 2).toNatClampNeg) r3.2).bind fun r6 => (p_X7_thrown  r6.2).bind fun r7 => if r7 = r3.1 then (if r3.1 = 0 then (if (lg_cmp (gL r6.2) r6.1.toInt64) = 0 then (some r6.2) else (none)) else (some r6.2)) else (none)) else none) else none) else none) else none
set_option maxRecDepth 20000 in
set_option maxHeartbeats 1000000 in
theorem s_lc_6 {l : Launch} {D : va_G} {ty : Nat → ClassId} {ρ : Nat → Nat → Nat} {N0 : Nat} (S : St l ty ρ N0) {xs : Nat → Int32} {L b : Nat} (i : Int32) (σ σ9 : Sg) (h : p_lc_6 xs L i σ = some σ9) {p : Program} {e : Env} {s : State} {m : MethodId} {args : Array Value} {below : List Frame} {meth : Method} {c : Code} {Q : State → Prop} (K : Cx p l s m args meth c code 9 RL ret D ty ρ N0) (hX : va_X b L xs s s.heap) (hbl : b < s.heap.size) (hbA : ¬ N0 ≤ b) {cs ss : Nat} (hcs : cs + 20 ≤ 603072) (hss : ss + 120 ≤ 7207018) (hk : ∀ c9 s9, c9 ≤ cs + 20 → s9 ≤ ss + 120 → WA p l e room_1 s m args below meth c D ty ρ N0 9 Q 2476 [some (.ref b), some (.ref (ρ 0 0)), some (.ref (ρ 20 0)), some (.ref (ρ 30 0)), some (.ref (ρ 31 0)), some (.int i), none, none, none] [] σ9 c9 s9) : WA p l e room_1 s m args below meth c D ty ρ N0 9 Q 600 [some (.ref b), some (.ref (ρ 0 0)), some (.ref (ρ 20 0)), some (.ref (ρ 30 0)), some (.ref (ρ 31 0)), some (.int i), none, none, none] [] σ cs ss := by
  have dq := @tat _ _ dt_law
  unfold p_lc_6 at h
  refine a_aload_n K (dq 278 rfl) rfl rfl ?_
  refine a_aload_n K (dq 279 rfl) rfl rfl ?_
  refine a_iload K (dq 280 rfl) rfl ?_
  refine a_iconst K (dq 281 rfl) (v := 1) rfl ?_
  refine a_iadd K (dq 282 rfl) ?_
  obtain ⟨c1, h⟩ := ib_some h
  refine a_sld K hX hbl hbA c1 (dq 283 rfl) ?_
  refine a_aload_n K (dq 284 rfl) rfl rfl ?_
  refine a_iload K (dq 285 rfl) rfl ?_
  refine a_iconst K (dq 286 rfl) (v := 2) rfl ?_
  refine a_iadd K (dq 287 rfl) ?_
  obtain ⟨c2, h⟩ := ib_some h
  refine a_sld K hX hbl hbA c2 (dq 288 rfl) ?_
  refine a_aload_n K (dq 289 rfl) rfl rfl ?_
  obtain ⟨r3, h3, h⟩ := bnd h
  refine a_callH K (s_L_drive S (xs (i + 1).toNatClampNeg) (xs (i + 2).toNatClampNeg) σ r3 h3) cw_L_drive mh_L_167 (by decide) rfl (rest := []) rfl (Nat.le_of_ble_eq_true rfl) (dq 290 rfl) (by constructor <;> (simp only [rmk, room_1]; omega)) ?_
  refine a_istore K (dq 291 rfl) (Nat.le_of_ble_eq_true rfl) (ls' := [some (.ref b), some (.ref (ρ 0 0)), some (.ref (ρ 20 0)), some (.ref (ρ 30 0)), some (.ref (ρ 31 0)), some (.int i), some (.int r3.1), none, none]) rfl ?_
  refine a_aload_n K (dq 292 rfl) rfl rfl ?_
  refine a_aload_n K (dq 293 rfl) rfl rfl ?_
  refine a_iload K (dq 294 rfl) rfl ?_
  refine a_iconst K (dq 295 rfl) (v := 1) rfl ?_
  refine a_iadd K (dq 296 rfl) ?_
  obtain ⟨c4, h⟩ := ib_some h
  refine a_sld K hX hbl hbA c4 (dq 297 rfl) ?_
  refine a_aload_n K (dq 298 rfl) rfl rfl ?_
  refine a_iload K (dq 299 rfl) rfl ?_
  refine a_iconst K (dq 300 rfl) (v := 2) rfl ?_
  refine a_iadd K (dq 301 rfl) ?_
  obtain ⟨c5, h⟩ := ib_some h
  refine a_sld K hX hbl hbA c5 (dq 302 rfl) ?_
  obtain ⟨r6, h6, h⟩ := bnd h
  refine a_callVi K (s_X7_drive S (xs (i + 1).toNatClampNeg) (xs (i + 2).toNatClampNeg) r3.2 r6 h6) v_20 rfl rfl cw_X7_drive ml_L_169 (by decide) rfl (rest := []) rfl (Nat.le_of_ble_eq_true rfl) (dq 303 rfl) (by constructor <;> (simp only [rmk, room_1]; omega)) ?_
  refine a_istore K (dq 304 rfl) (Nat.le_of_ble_eq_true rfl) (ls' := [some (.ref b), some (.ref (ρ 0 0)), some (.ref (ρ 20 0)), some (.ref (ρ 30 0)), some (.ref (ρ 31 0)), some (.int i), some (.int r3.1), some (.int r6.1), none]) rfl ?_
  refine a_aload_n K (dq 305 rfl) rfl rfl ?_
  obtain ⟨r7, h7, h⟩ := bnd h
  refine a_callVi K (s_X7_thrown S  r6.2 r7 h7) v_20 rfl rfl cw_X7_thrown ml_L_147 (by decide) rfl (rest := []) rfl (Nat.le_of_ble_eq_true rfl) (dq 306 rfl) (by constructor <;> (simp only [rmk, room_1]; omega)) ?_
  refine a_iload K (dq 307 rfl) rfl ?_
  refine a_icmp_eq K (tgt := 648) (dq 308 rfl) rfl (fun c8 => ?_) (fun c8 => ?_)
  · have h := ite_t c8 h
    refine a_iload K (dq 311 rfl) rfl ?_
    refine a_if_ne K (tgt := 665) (dq 312 rfl) rfl (fun c9 => ?_) (fun c9 => ?_)
    · have h := ite_f c9 h
      refine a_goto K (tgt := 2476) (dq 322 rfl) rfl ?_
      obtain rfl := Option.some.inj h
      refine a_le2 (ls' := [some (.ref b), some (.ref (ρ 0 0)), some (.ref (ρ 20 0)), some (.ref (ρ 30 0)), some (.ref (ρ 31 0)), some (.int i), none, none, none]) ⟨rfl, rfl, rfl, rfl, rfl, rfl, trivial⟩ ?_
      exact hk _ _ (by simp only [rmk]; omega) (by simp only [rmk]; omega)
    · have h := ite_t c9 h
      refine a_aload_n K (dq 313 rfl) rfl rfl ?_
      refine a_iconst K (dq 314 rfl) (v := 0) rfl ?_
      refine a_lald K (dq 315 rfl) ?_
      refine a_iload K (dq 316 rfl) rfl ?_
      refine a_i2l K (dq 317 rfl) ?_
      refine a_lcmp K (dq 318 rfl) ?_
      refine a_if_eq K (tgt := 665) (dq 319 rfl) rfl (fun c10 => ?_) (fun c10 => ?_)
      · have h := ite_t c10 h
        refine a_goto K (tgt := 2476) (dq 322 rfl) rfl ?_
        obtain rfl := Option.some.inj h
        refine a_le2 (ls' := [some (.ref b), some (.ref (ρ 0 0)), some (.ref (ρ 20 0)), some (.ref (ρ 30 0)), some (.ref (ρ 31 0)), some (.int i), none, none, none]) ⟨rfl, rfl, rfl, rfl, rfl, rfl, trivial⟩ ?_
        exact hk _ _ (by simp only [rmk]; omega) (by simp only [rmk]; omega)
      · have h := ite_f c10 h
        refine a_iconst K (dq 320 rfl) (v := 0) rfl ?_
        cases h
  · have h := ite_f c8 h
    refine a_iconst K (dq 309 rfl) (v := 0) rfl ?_
    cases h
def p_lc_7 (xs : Nat → Int32) (L : Nat) (i : Int32) (σ : Sg) : Option Sg := if ib (i + 1) L then (if ib (i + 2) L then ((p_L_farmOf (xs (i + 1).toNatClampNeg) (xs (i + 2).toNatClampNeg) σ).bind fun r3 => if ib (i + 1) L then (if ib (i + 2) L then ((p_X7_farmOf (xs (i + 1).toNatClampNeg) (xs (i + 2).toNatClampNeg) r3.2).bind fun r6 => (p_X7_thrown  r6.2).bind fun r7 => if r7 = r3.1 then (if r3.1 = 0 then (if (lg_cmp (gL r6.2) r6.1.toInt64) = 0 then (some r6.2) else (none)) else (some r6.2)) else (none)) else none) else none) else none) else none
set_option maxRecDepth 20000 in
set_option maxHeartbeats 1000000 in
theorem s_lc_7 {l : Launch} {D : va_G} {ty : Nat → ClassId} {ρ : Nat → Nat → Nat} {N0 : Nat} (S : St l ty ρ N0) {xs : Nat → Int32} {L b : Nat} (i : Int32) (σ σ9 : Sg) (h : p_lc_7 xs L i σ = some σ9) {p : Program} {e : Env} {s : State} {m : MethodId} {args : Array Value} {below : List Frame} {meth : Method} {c : Code} {Q : State → Prop} (K : Cx p l s m args meth c code 9 RL ret D ty ρ N0) (hX : va_X b L xs s s.heap) (hbl : b < s.heap.size) (hbA : ¬ N0 ≤ b) {cs ss : Nat} (hcs : cs + 20 ≤ 603072) (hss : ss + 120 ≤ 7207018) (hk : ∀ c9 s9, c9 ≤ cs + 20 → s9 ≤ ss + 120 → WA p l e room_1 s m args below meth c D ty ρ N0 9 Q 2476 [some (.ref b), some (.ref (ρ 0 0)), some (.ref (ρ 20 0)), some (.ref (ρ 30 0)), some (.ref (ρ 31 0)), some (.int i), none, none, none] [] σ9 c9 s9) : WA p l e room_1 s m args below meth c D ty ρ N0 9 Q 668 [some (.ref b), some (.ref (ρ 0 0)), some (.ref (ρ 20 0)), some (.ref (ρ 30 0)), some (.ref (ρ 31 0)), some (.int i), none, none, none] [] σ cs ss := by
  have dq := @tat _ _ dt_law
  unfold p_lc_7 at h
  refine a_aload_n K (dq 323 rfl) rfl rfl ?_
  refine a_aload_n K (dq 324 rfl) rfl rfl ?_
  refine a_iload K (dq 325 rfl) rfl ?_
  refine a_iconst K (dq 326 rfl) (v := 1) rfl ?_
  refine a_iadd K (dq 327 rfl) ?_
  obtain ⟨c1, h⟩ := ib_some h
  refine a_sld K hX hbl hbA c1 (dq 328 rfl) ?_
  refine a_aload_n K (dq 329 rfl) rfl rfl ?_
  refine a_iload K (dq 330 rfl) rfl ?_
  refine a_iconst K (dq 331 rfl) (v := 2) rfl ?_
  refine a_iadd K (dq 332 rfl) ?_
  obtain ⟨c2, h⟩ := ib_some h
  refine a_sld K hX hbl hbA c2 (dq 333 rfl) ?_
  refine a_aload_n K (dq 334 rfl) rfl rfl ?_
  obtain ⟨r3, h3, h⟩ := bnd h
  refine a_callH K (s_L_farmOf S (xs (i + 1).toNatClampNeg) (xs (i + 2).toNatClampNeg) σ r3 h3) cw_L_farmOf mh_L_170 (by decide) rfl (rest := []) rfl (Nat.le_of_ble_eq_true rfl) (dq 335 rfl) (by constructor <;> (simp only [rmk, room_1]; omega)) ?_
  refine a_istore K (dq 336 rfl) (Nat.le_of_ble_eq_true rfl) (ls' := [some (.ref b), some (.ref (ρ 0 0)), some (.ref (ρ 20 0)), some (.ref (ρ 30 0)), some (.ref (ρ 31 0)), some (.int i), some (.int r3.1), none, none]) rfl ?_
  refine a_aload_n K (dq 337 rfl) rfl rfl ?_
  refine a_aload_n K (dq 338 rfl) rfl rfl ?_
  refine a_iload K (dq 339 rfl) rfl ?_
  refine a_iconst K (dq 340 rfl) (v := 1) rfl ?_
  refine a_iadd K (dq 341 rfl) ?_
  obtain ⟨c4, h⟩ := ib_some h
  refine a_sld K hX hbl hbA c4 (dq 342 rfl) ?_
  refine a_aload_n K (dq 343 rfl) rfl rfl ?_
  refine a_iload K (dq 344 rfl) rfl ?_
  refine a_iconst K (dq 345 rfl) (v := 2) rfl ?_
  refine a_iadd K (dq 346 rfl) ?_
  obtain ⟨c5, h⟩ := ib_some h
  refine a_sld K hX hbl hbA c5 (dq 347 rfl) ?_
  obtain ⟨r6, h6, h⟩ := bnd h
  refine a_callVi K (s_X7_farmOf S (xs (i + 1).toNatClampNeg) (xs (i + 2).toNatClampNeg) r3.2 r6 h6) v_20 rfl rfl cw_X7_farmOf ml_L_172 (by decide) rfl (rest := []) rfl (Nat.le_of_ble_eq_true rfl) (dq 348 rfl) (by constructor <;> (simp only [rmk, room_1]; omega)) ?_
  refine a_istore K (dq 349 rfl) (Nat.le_of_ble_eq_true rfl) (ls' := [some (.ref b), some (.ref (ρ 0 0)), some (.ref (ρ 20 0)), some (.ref (ρ 30 0)), some (.ref (ρ 31 0)), some (.int i), some (.int r3.1), some (.int r6.1), none]) rfl ?_
  refine a_aload_n K (dq 350 rfl) rfl rfl ?_
  obtain ⟨r7, h7, h⟩ := bnd h
  refine a_callVi K (s_X7_thrown S  r6.2 r7 h7) v_20 rfl rfl cw_X7_thrown ml_L_147 (by decide) rfl (rest := []) rfl (Nat.le_of_ble_eq_true rfl) (dq 351 rfl) (by constructor <;> (simp only [rmk, room_1]; omega)) ?_
  refine a_iload K (dq 352 rfl) rfl ?_
  refine a_icmp_eq K (tgt := 716) (dq 353 rfl) rfl (fun c8 => ?_) (fun c8 => ?_)
  · have h := ite_t c8 h
    refine a_iload K (dq 356 rfl) rfl ?_
    refine a_if_ne K (tgt := 733) (dq 357 rfl) rfl (fun c9 => ?_) (fun c9 => ?_)
    · have h := ite_f c9 h
      refine a_goto K (tgt := 2476) (dq 367 rfl) rfl ?_
      obtain rfl := Option.some.inj h
      refine a_le2 (ls' := [some (.ref b), some (.ref (ρ 0 0)), some (.ref (ρ 20 0)), some (.ref (ρ 30 0)), some (.ref (ρ 31 0)), some (.int i), none, none, none]) ⟨rfl, rfl, rfl, rfl, rfl, rfl, trivial⟩ ?_
      exact hk _ _ (by simp only [rmk]; omega) (by simp only [rmk]; omega)
    · have h := ite_t c9 h
      refine a_aload_n K (dq 358 rfl) rfl rfl ?_
      refine a_iconst K (dq 359 rfl) (v := 0) rfl ?_
      refine a_lald K (dq 360 rfl) ?_
      refine a_iload K (dq 361 rfl) rfl ?_
      refine a_i2l K (dq 362 rfl) ?_
      refine a_lcmp K (dq 363 rfl) ?_
      refine a_if_eq K (tgt := 733) (dq 364 rfl) rfl (fun c10 => ?_) (fun c10 => ?_)
      · have h := ite_t c10 h
        refine a_goto K (tgt := 2476) (dq 367 rfl) rfl ?_
        obtain rfl := Option.some.inj h
        refine a_le2 (ls' := [some (.ref b), some (.ref (ρ 0 0)), some (.ref (ρ 20 0)), some (.ref (ρ 30 0)), some (.ref (ρ 31 0)), some (.int i), none, none, none]) ⟨rfl, rfl, rfl, rfl, rfl, rfl, trivial⟩ ?_
        exact hk _ _ (by simp only [rmk]; omega) (by simp only [rmk]; omega)
      · have h := ite_f c10 h
        refine a_iconst K (dq 365 rfl) (v := 0) rfl ?_
        cases h
  · have h := ite_f c8 h
    refine a_iconst K (dq 354 rfl) (v := 0) rfl ?_
    cases h
def p_lc_8 (xs : Nat → Int32) (L : Nat) (i : Int32) (σ : Sg) : Option Sg := if ib (i + 1) L then (if ib (i + 2) L then ((p_L_steps (xs (i + 1).toNatClampNeg) (xs (i + 2).toNatClampNeg) σ).bind fun r3 => if ib (i + 1) L then (if ib (i + 2) L then ((p_X7_steps (xs (i + 1).toNatClampNeg) (xs (i + 2).toNatClampNeg) r3.2).bind fun r6 => (p_X7_thrown  r6.2).bind fun r7 => if r7 = r3.1 then (if r3.1 = 0 then (if (lg_cmp (gL r6.2) r6.1.toInt64) = 0 then (some r6.2) else (none)) else (some r6.2)) else (none)) else none) else none) else none) else none
set_option maxRecDepth 20000 in
set_option maxHeartbeats 1000000 in
theorem s_lc_8 {l : Launch} {D : va_G} {ty : Nat → ClassId} {ρ : Nat → Nat → Nat} {N0 : Nat} (S : St l ty ρ N0) {xs : Nat → Int32} {L b : Nat} (i : Int32) (σ σ9 : Sg) (h : p_lc_8 xs L i σ = some σ9) {p : Program} {e : Env} {s : State} {m : MethodId} {args : Array Value} {below : List Frame} {meth : Method} {c : Code} {Q : State → Prop} (K : Cx p l s m args meth c code 9 RL ret D ty ρ N0) (hX : va_X b L xs s s.heap) (hbl : b < s.heap.size) (hbA : ¬ N0 ≤ b) {cs ss : Nat} (hcs : cs + 20 ≤ 603072) (hss : ss + 120 ≤ 7207018) (hk : ∀ c9 s9, c9 ≤ cs + 20 → s9 ≤ ss + 120 → WA p l e room_1 s m args below meth c D ty ρ N0 9 Q 2476 [some (.ref b), some (.ref (ρ 0 0)), some (.ref (ρ 20 0)), some (.ref (ρ 30 0)), some (.ref (ρ 31 0)), some (.int i), none, none, none] [] σ9 c9 s9) : WA p l e room_1 s m args below meth c D ty ρ N0 9 Q 736 [some (.ref b), some (.ref (ρ 0 0)), some (.ref (ρ 20 0)), some (.ref (ρ 30 0)), some (.ref (ρ 31 0)), some (.int i), none, none, none] [] σ cs ss := by
  have dq := @tat _ _ dt_law
  unfold p_lc_8 at h
  refine a_aload_n K (dq 368 rfl) rfl rfl ?_
  refine a_aload_n K (dq 369 rfl) rfl rfl ?_
  refine a_iload K (dq 370 rfl) rfl ?_
  refine a_iconst K (dq 371 rfl) (v := 1) rfl ?_
  refine a_iadd K (dq 372 rfl) ?_
  obtain ⟨c1, h⟩ := ib_some h
  refine a_sld K hX hbl hbA c1 (dq 373 rfl) ?_
  refine a_aload_n K (dq 374 rfl) rfl rfl ?_
  refine a_iload K (dq 375 rfl) rfl ?_
  refine a_iconst K (dq 376 rfl) (v := 2) rfl ?_
  refine a_iadd K (dq 377 rfl) ?_
  obtain ⟨c2, h⟩ := ib_some h
  refine a_sld K hX hbl hbA c2 (dq 378 rfl) ?_
  refine a_aload_n K (dq 379 rfl) rfl rfl ?_
  obtain ⟨r3, h3, h⟩ := bnd h
  refine a_callH K (s_L_steps S (xs (i + 1).toNatClampNeg) (xs (i + 2).toNatClampNeg) σ r3 h3) cw_L_steps mh_L_173 (by decide) rfl (rest := []) rfl (Nat.le_of_ble_eq_true rfl) (dq 380 rfl) (by constructor <;> (simp only [rmk, room_1]; omega)) ?_
  refine a_istore K (dq 381 rfl) (Nat.le_of_ble_eq_true rfl) (ls' := [some (.ref b), some (.ref (ρ 0 0)), some (.ref (ρ 20 0)), some (.ref (ρ 30 0)), some (.ref (ρ 31 0)), some (.int i), some (.int r3.1), none, none]) rfl ?_
  refine a_aload_n K (dq 382 rfl) rfl rfl ?_
  refine a_aload_n K (dq 383 rfl) rfl rfl ?_
  refine a_iload K (dq 384 rfl) rfl ?_
  refine a_iconst K (dq 385 rfl) (v := 1) rfl ?_
  refine a_iadd K (dq 386 rfl) ?_
  obtain ⟨c4, h⟩ := ib_some h
  refine a_sld K hX hbl hbA c4 (dq 387 rfl) ?_
  refine a_aload_n K (dq 388 rfl) rfl rfl ?_
  refine a_iload K (dq 389 rfl) rfl ?_
  refine a_iconst K (dq 390 rfl) (v := 2) rfl ?_
  refine a_iadd K (dq 391 rfl) ?_
  obtain ⟨c5, h⟩ := ib_some h
  refine a_sld K hX hbl hbA c5 (dq 392 rfl) ?_
  obtain ⟨r6, h6, h⟩ := bnd h
  refine a_callVi K (s_X7_steps S (xs (i + 1).toNatClampNeg) (xs (i + 2).toNatClampNeg) r3.2 r6 h6) v_20 rfl rfl cw_X7_steps ml_L_175 (by decide) rfl (rest := []) rfl (Nat.le_of_ble_eq_true rfl) (dq 393 rfl) (by constructor <;> (simp only [rmk, room_1]; omega)) ?_
  refine a_istore K (dq 394 rfl) (Nat.le_of_ble_eq_true rfl) (ls' := [some (.ref b), some (.ref (ρ 0 0)), some (.ref (ρ 20 0)), some (.ref (ρ 30 0)), some (.ref (ρ 31 0)), some (.int i), some (.int r3.1), some (.int r6.1), none]) rfl ?_
  refine a_aload_n K (dq 395 rfl) rfl rfl ?_
  obtain ⟨r7, h7, h⟩ := bnd h
  refine a_callVi K (s_X7_thrown S  r6.2 r7 h7) v_20 rfl rfl cw_X7_thrown ml_L_147 (by decide) rfl (rest := []) rfl (Nat.le_of_ble_eq_true rfl) (dq 396 rfl) (by constructor <;> (simp only [rmk, room_1]; omega)) ?_
  refine a_iload K (dq 397 rfl) rfl ?_
  refine a_icmp_eq K (tgt := 784) (dq 398 rfl) rfl (fun c8 => ?_) (fun c8 => ?_)
  · have h := ite_t c8 h
    refine a_iload K (dq 401 rfl) rfl ?_
    refine a_if_ne K (tgt := 801) (dq 402 rfl) rfl (fun c9 => ?_) (fun c9 => ?_)
    · have h := ite_f c9 h
      refine a_goto K (tgt := 2476) (dq 412 rfl) rfl ?_
      obtain rfl := Option.some.inj h
      refine a_le2 (ls' := [some (.ref b), some (.ref (ρ 0 0)), some (.ref (ρ 20 0)), some (.ref (ρ 30 0)), some (.ref (ρ 31 0)), some (.int i), none, none, none]) ⟨rfl, rfl, rfl, rfl, rfl, rfl, trivial⟩ ?_
      exact hk _ _ (by simp only [rmk]; omega) (by simp only [rmk]; omega)
    · have h := ite_t c9 h
      refine a_aload_n K (dq 403 rfl) rfl rfl ?_
      refine a_iconst K (dq 404 rfl) (v := 0) rfl ?_
      refine a_lald K (dq 405 rfl) ?_
      refine a_iload K (dq 406 rfl) rfl ?_
      refine a_i2l K (dq 407 rfl) ?_
      refine a_lcmp K (dq 408 rfl) ?_
      refine a_if_eq K (tgt := 801) (dq 409 rfl) rfl (fun c10 => ?_) (fun c10 => ?_)
      · have h := ite_t c10 h
        refine a_goto K (tgt := 2476) (dq 412 rfl) rfl ?_
        obtain rfl := Option.some.inj h
        refine a_le2 (ls' := [some (.ref b), some (.ref (ρ 0 0)), some (.ref (ρ 20 0)), some (.ref (ρ 30 0)), some (.ref (ρ 31 0)), some (.int i), none, none, none]) ⟨rfl, rfl, rfl, rfl, rfl, rfl, trivial⟩ ?_
        exact hk _ _ (by simp only [rmk]; omega) (by simp only [rmk]; omega)
      · have h := ite_f c10 h
        refine a_iconst K (dq 410 rfl) (v := 0) rfl ?_
        cases h
  · have h := ite_f c8 h
    refine a_iconst K (dq 399 rfl) (v := 0) rfl ?_
    cases h
def p_lc_9 (xs : Nat → Int32) (L : Nat) (i : Int32) (σ : Sg) : Option Sg := if ib (i + 1) L then (if ib (i + 2) L then ((p_L_next (xs (i + 1).toNatClampNeg) (xs (i + 2).toNatClampNeg) σ).bind fun r3 => if ib (i + 1) L then (if ib (i + 2) L then ((p_X7_next (xs (i + 1).toNatClampNeg) (xs (i + 2).toNatClampNeg) r3.2).bind fun r6 => (p_X7_thrown  r6.2).bind fun r7 => if r7 = r3.1 then (if r3.1 = 0 then (if (lg_cmp (gL r6.2) r6.1.toInt64) = 0 then (some r6.2) else (none)) else (some r6.2)) else (none)) else none) else none) else none) else none
set_option maxRecDepth 20000 in
set_option maxHeartbeats 1000000 in
theorem s_lc_9 {l : Launch} {D : va_G} {ty : Nat → ClassId} {ρ : Nat → Nat → Nat} {N0 : Nat} (S : St l ty ρ N0) {xs : Nat → Int32} {L b : Nat} (i : Int32) (σ σ9 : Sg) (h : p_lc_9 xs L i σ = some σ9) {p : Program} {e : Env} {s : State} {m : MethodId} {args : Array Value} {below : List Frame} {meth : Method} {c : Code} {Q : State → Prop} (K : Cx p l s m args meth c code 9 RL ret D ty ρ N0) (hX : va_X b L xs s s.heap) (hbl : b < s.heap.size) (hbA : ¬ N0 ≤ b) {cs ss : Nat} (hcs : cs + 20 ≤ 603072) (hss : ss + 120 ≤ 7207018) (hk : ∀ c9 s9, c9 ≤ cs + 20 → s9 ≤ ss + 120 → WA p l e room_1 s m args below meth c D ty ρ N0 9 Q 2476 [some (.ref b), some (.ref (ρ 0 0)), some (.ref (ρ 20 0)), some (.ref (ρ 30 0)), some (.ref (ρ 31 0)), some (.int i), none, none, none] [] σ9 c9 s9) : WA p l e room_1 s m args below meth c D ty ρ N0 9 Q 804 [some (.ref b), some (.ref (ρ 0 0)), some (.ref (ρ 20 0)), some (.ref (ρ 30 0)), some (.ref (ρ 31 0)), some (.int i), none, none, none] [] σ cs ss := by
  have dq := @tat _ _ dt_law
  unfold p_lc_9 at h
  refine a_aload_n K (dq 413 rfl) rfl rfl ?_
  refine a_aload_n K (dq 414 rfl) rfl rfl ?_
  refine a_iload K (dq 415 rfl) rfl ?_
  refine a_iconst K (dq 416 rfl) (v := 1) rfl ?_
  refine a_iadd K (dq 417 rfl) ?_
  obtain ⟨c1, h⟩ := ib_some h
  refine a_sld K hX hbl hbA c1 (dq 418 rfl) ?_
  refine a_aload_n K (dq 419 rfl) rfl rfl ?_
  refine a_iload K (dq 420 rfl) rfl ?_
  refine a_iconst K (dq 421 rfl) (v := 2) rfl ?_
  refine a_iadd K (dq 422 rfl) ?_
  obtain ⟨c2, h⟩ := ib_some h
  refine a_sld K hX hbl hbA c2 (dq 423 rfl) ?_
  refine a_aload_n K (dq 424 rfl) rfl rfl ?_
  obtain ⟨r3, h3, h⟩ := bnd h
  refine a_callH K (s_L_next S (xs (i + 1).toNatClampNeg) (xs (i + 2).toNatClampNeg) σ r3 h3) cw_L_next mh_L_176 (by decide) rfl (rest := []) rfl (Nat.le_of_ble_eq_true rfl) (dq 425 rfl) (by constructor <;> (simp only [rmk, room_1]; omega)) ?_
  refine a_istore K (dq 426 rfl) (Nat.le_of_ble_eq_true rfl) (ls' := [some (.ref b), some (.ref (ρ 0 0)), some (.ref (ρ 20 0)), some (.ref (ρ 30 0)), some (.ref (ρ 31 0)), some (.int i), some (.int r3.1), none, none]) rfl ?_
  refine a_aload_n K (dq 427 rfl) rfl rfl ?_
  refine a_aload_n K (dq 428 rfl) rfl rfl ?_
  refine a_iload K (dq 429 rfl) rfl ?_
  refine a_iconst K (dq 430 rfl) (v := 1) rfl ?_
  refine a_iadd K (dq 431 rfl) ?_
  obtain ⟨c4, h⟩ := ib_some h
  refine a_sld K hX hbl hbA c4 (dq 432 rfl) ?_
  refine a_aload_n K (dq 433 rfl) rfl rfl ?_
  refine a_iload K (dq 434 rfl) rfl ?_
  refine a_iconst K (dq 435 rfl) (v := 2) rfl ?_
  refine a_iadd K (dq 436 rfl) ?_
  obtain ⟨c5, h⟩ := ib_some h
  refine a_sld K hX hbl hbA c5 (dq 437 rfl) ?_
  obtain ⟨r6, h6, h⟩ := bnd h
  refine a_callVi K (s_X7_next S (xs (i + 1).toNatClampNeg) (xs (i + 2).toNatClampNeg) r3.2 r6 h6) v_20 rfl rfl cw_X7_next ml_L_178 (by decide) rfl (rest := []) rfl (Nat.le_of_ble_eq_true rfl) (dq 438 rfl) (by constructor <;> (simp only [rmk, room_1]; omega)) ?_
  refine a_istore K (dq 439 rfl) (Nat.le_of_ble_eq_true rfl) (ls' := [some (.ref b), some (.ref (ρ 0 0)), some (.ref (ρ 20 0)), some (.ref (ρ 30 0)), some (.ref (ρ 31 0)), some (.int i), some (.int r3.1), some (.int r6.1), none]) rfl ?_
  refine a_aload_n K (dq 440 rfl) rfl rfl ?_
  obtain ⟨r7, h7, h⟩ := bnd h
  refine a_callVi K (s_X7_thrown S  r6.2 r7 h7) v_20 rfl rfl cw_X7_thrown ml_L_147 (by decide) rfl (rest := []) rfl (Nat.le_of_ble_eq_true rfl) (dq 441 rfl) (by constructor <;> (simp only [rmk, room_1]; omega)) ?_
  refine a_iload K (dq 442 rfl) rfl ?_
  refine a_icmp_eq K (tgt := 852) (dq 443 rfl) rfl (fun c8 => ?_) (fun c8 => ?_)
  · have h := ite_t c8 h
    refine a_iload K (dq 446 rfl) rfl ?_
    refine a_if_ne K (tgt := 869) (dq 447 rfl) rfl (fun c9 => ?_) (fun c9 => ?_)
    · have h := ite_f c9 h
      refine a_goto K (tgt := 2476) (dq 457 rfl) rfl ?_
      obtain rfl := Option.some.inj h
      refine a_le2 (ls' := [some (.ref b), some (.ref (ρ 0 0)), some (.ref (ρ 20 0)), some (.ref (ρ 30 0)), some (.ref (ρ 31 0)), some (.int i), none, none, none]) ⟨rfl, rfl, rfl, rfl, rfl, rfl, trivial⟩ ?_
      exact hk _ _ (by simp only [rmk]; omega) (by simp only [rmk]; omega)
    · have h := ite_t c9 h
      refine a_aload_n K (dq 448 rfl) rfl rfl ?_
      refine a_iconst K (dq 449 rfl) (v := 0) rfl ?_
      refine a_lald K (dq 450 rfl) ?_
      refine a_iload K (dq 451 rfl) rfl ?_
      refine a_i2l K (dq 452 rfl) ?_
      refine a_lcmp K (dq 453 rfl) ?_
      refine a_if_eq K (tgt := 869) (dq 454 rfl) rfl (fun c10 => ?_) (fun c10 => ?_)
      · have h := ite_t c10 h
        refine a_goto K (tgt := 2476) (dq 457 rfl) rfl ?_
        obtain rfl := Option.some.inj h
        refine a_le2 (ls' := [some (.ref b), some (.ref (ρ 0 0)), some (.ref (ρ 20 0)), some (.ref (ρ 30 0)), some (.ref (ρ 31 0)), some (.int i), none, none, none]) ⟨rfl, rfl, rfl, rfl, rfl, rfl, trivial⟩ ?_
        exact hk _ _ (by simp only [rmk]; omega) (by simp only [rmk]; omega)
      · have h := ite_f c10 h
        refine a_iconst K (dq 455 rfl) (v := 0) rfl ?_
        cases h
  · have h := ite_f c8 h
    refine a_iconst K (dq 444 rfl) (v := 0) rfl ?_
    cases h
def p_lc_10 (xs : Nat → Int32) (L : Nat) (i : Int32) (σ : Sg) : Option Sg := if ib (i + 1) L then (if ib (i + 2) L then (if ib (i + 3) L then ((p_L_onWay (xs (i + 1).toNatClampNeg) (xs (i + 2).toNatClampNeg) (xs (i + 3).toNatClampNeg) σ).bind fun r4 => if ib (i + 1) L then (if ib (i + 2) L then (if ib (i + 3) L then ((p_X7_onWay (xs (i + 1).toNatClampNeg) (xs (i + 2).toNatClampNeg) (xs (i + 3).toNatClampNeg) r4.2).bind fun r8 => (p_X7_thrown  r8.2).bind fun r9 => if r9 = r4.1 then (if r4.1 = 0 then (if (lg_cmp (gL r8.2) r8.1.toInt64) = 0 then (some r8.2) else (none)) else (some r8.2)) else (none)) else none) else none) else none) else none) else none) else none
set_option maxRecDepth 20000 in
set_option maxHeartbeats 1000000 in
theorem s_lc_10 {l : Launch} {D : va_G} {ty : Nat → ClassId} {ρ : Nat → Nat → Nat} {N0 : Nat} (S : St l ty ρ N0) {xs : Nat → Int32} {L b : Nat} (i : Int32) (σ σ9 : Sg) (h : p_lc_10 xs L i σ = some σ9) {p : Program} {e : Env} {s : State} {m : MethodId} {args : Array Value} {below : List Frame} {meth : Method} {c : Code} {Q : State → Prop} (K : Cx p l s m args meth c code 9 RL ret D ty ρ N0) (hX : va_X b L xs s s.heap) (hbl : b < s.heap.size) (hbA : ¬ N0 ≤ b) {cs ss : Nat} (hcs : cs + 20 ≤ 603072) (hss : ss + 120 ≤ 7207018) (hk : ∀ c9 s9, c9 ≤ cs + 20 → s9 ≤ ss + 120 → WA p l e room_1 s m args below meth c D ty ρ N0 9 Q 2476 [some (.ref b), some (.ref (ρ 0 0)), some (.ref (ρ 20 0)), some (.ref (ρ 30 0)), some (.ref (ρ 31 0)), some (.int i), none, none, none] [] σ9 c9 s9) : WA p l e room_1 s m args below meth c D ty ρ N0 9 Q 872 [some (.ref b), some (.ref (ρ 0 0)), some (.ref (ρ 20 0)), some (.ref (ρ 30 0)), some (.ref (ρ 31 0)), some (.int i), none, none, none] [] σ cs ss := by
  have dq := @tat _ _ dt_law
  unfold p_lc_10 at h
  refine a_aload_n K (dq 458 rfl) rfl rfl ?_
  refine a_aload_n K (dq 459 rfl) rfl rfl ?_
  refine a_iload K (dq 460 rfl) rfl ?_
  refine a_iconst K (dq 461 rfl) (v := 1) rfl ?_
  refine a_iadd K (dq 462 rfl) ?_
  obtain ⟨c1, h⟩ := ib_some h
  refine a_sld K hX hbl hbA c1 (dq 463 rfl) ?_
  refine a_aload_n K (dq 464 rfl) rfl rfl ?_
  refine a_iload K (dq 465 rfl) rfl ?_
  refine a_iconst K (dq 466 rfl) (v := 2) rfl ?_
  refine a_iadd K (dq 467 rfl) ?_
  obtain ⟨c2, h⟩ := ib_some h
  refine a_sld K hX hbl hbA c2 (dq 468 rfl) ?_
  refine a_aload_n K (dq 469 rfl) rfl rfl ?_
  refine a_iload K (dq 470 rfl) rfl ?_
  refine a_iconst K (dq 471 rfl) (v := 3) rfl ?_
  refine a_iadd K (dq 472 rfl) ?_
  obtain ⟨c3, h⟩ := ib_some h
  refine a_sld K hX hbl hbA c3 (dq 473 rfl) ?_
  refine a_aload_n K (dq 474 rfl) rfl rfl ?_
  obtain ⟨r4, h4, h⟩ := bnd h
  refine a_callH K (s_L_onWay S (xs (i + 1).toNatClampNeg) (xs (i + 2).toNatClampNeg) (xs (i + 3).toNatClampNeg) σ r4 h4) cw_L_onWay mh_L_179 (by decide) rfl (rest := []) rfl (Nat.le_of_ble_eq_true rfl) (dq 475 rfl) (by constructor <;> (simp only [rmk, room_1]; omega)) ?_
  refine a_istore K (dq 476 rfl) (Nat.le_of_ble_eq_true rfl) (ls' := [some (.ref b), some (.ref (ρ 0 0)), some (.ref (ρ 20 0)), some (.ref (ρ 30 0)), some (.ref (ρ 31 0)), some (.int i), some (.int r4.1), none, none]) rfl ?_
  refine a_aload_n K (dq 477 rfl) rfl rfl ?_
  refine a_aload_n K (dq 478 rfl) rfl rfl ?_
  refine a_iload K (dq 479 rfl) rfl ?_
  refine a_iconst K (dq 480 rfl) (v := 1) rfl ?_
  refine a_iadd K (dq 481 rfl) ?_
  obtain ⟨c5, h⟩ := ib_some h
  refine a_sld K hX hbl hbA c5 (dq 482 rfl) ?_
  refine a_aload_n K (dq 483 rfl) rfl rfl ?_
  refine a_iload K (dq 484 rfl) rfl ?_
  refine a_iconst K (dq 485 rfl) (v := 2) rfl ?_
  refine a_iadd K (dq 486 rfl) ?_
  obtain ⟨c6, h⟩ := ib_some h
  refine a_sld K hX hbl hbA c6 (dq 487 rfl) ?_
  refine a_aload_n K (dq 488 rfl) rfl rfl ?_
  refine a_iload K (dq 489 rfl) rfl ?_
  refine a_iconst K (dq 490 rfl) (v := 3) rfl ?_
  refine a_iadd K (dq 491 rfl) ?_
  obtain ⟨c7, h⟩ := ib_some h
  refine a_sld K hX hbl hbA c7 (dq 492 rfl) ?_
  obtain ⟨r8, h8, h⟩ := bnd h
  refine a_callVi K (s_X7_onWay S (xs (i + 1).toNatClampNeg) (xs (i + 2).toNatClampNeg) (xs (i + 3).toNatClampNeg) r4.2 r8 h8) v_20 rfl rfl cw_X7_onWay ml_L_181 (by decide) rfl (rest := []) rfl (Nat.le_of_ble_eq_true rfl) (dq 493 rfl) (by constructor <;> (simp only [rmk, room_1]; omega)) ?_
  refine a_istore K (dq 494 rfl) (Nat.le_of_ble_eq_true rfl) (ls' := [some (.ref b), some (.ref (ρ 0 0)), some (.ref (ρ 20 0)), some (.ref (ρ 30 0)), some (.ref (ρ 31 0)), some (.int i), some (.int r4.1), some (.int r8.1), none]) rfl ?_
  refine a_aload_n K (dq 495 rfl) rfl rfl ?_
  obtain ⟨r9, h9, h⟩ := bnd h
  refine a_callVi K (s_X7_thrown S  r8.2 r9 h9) v_20 rfl rfl cw_X7_thrown ml_L_147 (by decide) rfl (rest := []) rfl (Nat.le_of_ble_eq_true rfl) (dq 496 rfl) (by constructor <;> (simp only [rmk, room_1]; omega)) ?_
  refine a_iload K (dq 497 rfl) rfl ?_
  refine a_icmp_eq K (tgt := 932) (dq 498 rfl) rfl (fun c10 => ?_) (fun c10 => ?_)
  · have h := ite_t c10 h
    refine a_iload K (dq 501 rfl) rfl ?_
    refine a_if_ne K (tgt := 949) (dq 502 rfl) rfl (fun c11 => ?_) (fun c11 => ?_)
    · have h := ite_f c11 h
      refine a_goto K (tgt := 2476) (dq 512 rfl) rfl ?_
      obtain rfl := Option.some.inj h
      refine a_le2 (ls' := [some (.ref b), some (.ref (ρ 0 0)), some (.ref (ρ 20 0)), some (.ref (ρ 30 0)), some (.ref (ρ 31 0)), some (.int i), none, none, none]) ⟨rfl, rfl, rfl, rfl, rfl, rfl, trivial⟩ ?_
      exact hk _ _ (by simp only [rmk]; omega) (by simp only [rmk]; omega)
    · have h := ite_t c11 h
      refine a_aload_n K (dq 503 rfl) rfl rfl ?_
      refine a_iconst K (dq 504 rfl) (v := 0) rfl ?_
      refine a_lald K (dq 505 rfl) ?_
      refine a_iload K (dq 506 rfl) rfl ?_
      refine a_i2l K (dq 507 rfl) ?_
      refine a_lcmp K (dq 508 rfl) ?_
      refine a_if_eq K (tgt := 949) (dq 509 rfl) rfl (fun c12 => ?_) (fun c12 => ?_)
      · have h := ite_t c12 h
        refine a_goto K (tgt := 2476) (dq 512 rfl) rfl ?_
        obtain rfl := Option.some.inj h
        refine a_le2 (ls' := [some (.ref b), some (.ref (ρ 0 0)), some (.ref (ρ 20 0)), some (.ref (ρ 30 0)), some (.ref (ρ 31 0)), some (.int i), none, none, none]) ⟨rfl, rfl, rfl, rfl, rfl, rfl, trivial⟩ ?_
        exact hk _ _ (by simp only [rmk]; omega) (by simp only [rmk]; omega)
      · have h := ite_f c12 h
        refine a_iconst K (dq 510 rfl) (v := 0) rfl ?_
        cases h
  · have h := ite_f c10 h
    refine a_iconst K (dq 499 rfl) (v := 0) rfl ?_
    cases h
def p_lc_11 (xs : Nat → Int32) (L : Nat) (i : Int32) (σ : Sg) : Option Sg := if ib (i + 1) L then (if ib (i + 2) L then ((p_L_meet (xs (i + 1).toNatClampNeg) (xs (i + 2).toNatClampNeg) σ).bind fun r3 => if ib (i + 1) L then (if ib (i + 2) L then ((p_X7_meet (xs (i + 1).toNatClampNeg) (xs (i + 2).toNatClampNeg) r3.2).bind fun r6 => (p_X7_thrown  r6.2).bind fun r7 => if r7 = r3.1 then (if r3.1 = 0 then (if (lg_cmp (gL r6.2) r6.1.toInt64) = 0 then (some r6.2) else (none)) else (some r6.2)) else (none)) else none) else none) else none) else none
set_option maxRecDepth 20000 in
set_option maxHeartbeats 1000000 in
theorem s_lc_11 {l : Launch} {D : va_G} {ty : Nat → ClassId} {ρ : Nat → Nat → Nat} {N0 : Nat} (S : St l ty ρ N0) {xs : Nat → Int32} {L b : Nat} (i : Int32) (σ σ9 : Sg) (h : p_lc_11 xs L i σ = some σ9) {p : Program} {e : Env} {s : State} {m : MethodId} {args : Array Value} {below : List Frame} {meth : Method} {c : Code} {Q : State → Prop} (K : Cx p l s m args meth c code 9 RL ret D ty ρ N0) (hX : va_X b L xs s s.heap) (hbl : b < s.heap.size) (hbA : ¬ N0 ≤ b) {cs ss : Nat} (hcs : cs + 20 ≤ 603072) (hss : ss + 120 ≤ 7207018) (hk : ∀ c9 s9, c9 ≤ cs + 20 → s9 ≤ ss + 120 → WA p l e room_1 s m args below meth c D ty ρ N0 9 Q 2476 [some (.ref b), some (.ref (ρ 0 0)), some (.ref (ρ 20 0)), some (.ref (ρ 30 0)), some (.ref (ρ 31 0)), some (.int i), none, none, none] [] σ9 c9 s9) : WA p l e room_1 s m args below meth c D ty ρ N0 9 Q 952 [some (.ref b), some (.ref (ρ 0 0)), some (.ref (ρ 20 0)), some (.ref (ρ 30 0)), some (.ref (ρ 31 0)), some (.int i), none, none, none] [] σ cs ss := by
  have dq := @tat _ _ dt_law
  unfold p_lc_11 at h
  refine a_aload_n K (dq 513 rfl) rfl rfl ?_
  refine a_aload_n K (dq 514 rfl) rfl rfl ?_
  refine a_iload K (dq 515 rfl) rfl ?_
  refine a_iconst K (dq 516 rfl) (v := 1) rfl ?_
  refine a_iadd K (dq 517 rfl) ?_
  obtain ⟨c1, h⟩ := ib_some h
  refine a_sld K hX hbl hbA c1 (dq 518 rfl) ?_
  refine a_aload_n K (dq 519 rfl) rfl rfl ?_
  refine a_iload K (dq 520 rfl) rfl ?_
  refine a_iconst K (dq 521 rfl) (v := 2) rfl ?_
  refine a_iadd K (dq 522 rfl) ?_
  obtain ⟨c2, h⟩ := ib_some h
  refine a_sld K hX hbl hbA c2 (dq 523 rfl) ?_
  refine a_aload_n K (dq 524 rfl) rfl rfl ?_
  obtain ⟨r3, h3, h⟩ := bnd h
  refine a_callH K (s_L_meet S (xs (i + 1).toNatClampNeg) (xs (i + 2).toNatClampNeg) σ r3 h3) cw_L_meet mh_L_182 (by decide) rfl (rest := []) rfl (Nat.le_of_ble_eq_true rfl) (dq 525 rfl) (by constructor <;> (simp only [rmk, room_1]; omega)) ?_
  refine a_istore K (dq 526 rfl) (Nat.le_of_ble_eq_true rfl) (ls' := [some (.ref b), some (.ref (ρ 0 0)), some (.ref (ρ 20 0)), some (.ref (ρ 30 0)), some (.ref (ρ 31 0)), some (.int i), some (.int r3.1), none, none]) rfl ?_
  refine a_aload_n K (dq 527 rfl) rfl rfl ?_
  refine a_aload_n K (dq 528 rfl) rfl rfl ?_
  refine a_iload K (dq 529 rfl) rfl ?_
  refine a_iconst K (dq 530 rfl) (v := 1) rfl ?_
  refine a_iadd K (dq 531 rfl) ?_
  obtain ⟨c4, h⟩ := ib_some h
  refine a_sld K hX hbl hbA c4 (dq 532 rfl) ?_
  refine a_aload_n K (dq 533 rfl) rfl rfl ?_
  refine a_iload K (dq 534 rfl) rfl ?_
  refine a_iconst K (dq 535 rfl) (v := 2) rfl ?_
  refine a_iadd K (dq 536 rfl) ?_
  obtain ⟨c5, h⟩ := ib_some h
  refine a_sld K hX hbl hbA c5 (dq 537 rfl) ?_
  obtain ⟨r6, h6, h⟩ := bnd h
  refine a_callVi K (s_X7_meet S (xs (i + 1).toNatClampNeg) (xs (i + 2).toNatClampNeg) r3.2 r6 h6) v_20 rfl rfl cw_X7_meet ml_L_184 (by decide) rfl (rest := []) rfl (Nat.le_of_ble_eq_true rfl) (dq 538 rfl) (by constructor <;> (simp only [rmk, room_1]; omega)) ?_
  refine a_istore K (dq 539 rfl) (Nat.le_of_ble_eq_true rfl) (ls' := [some (.ref b), some (.ref (ρ 0 0)), some (.ref (ρ 20 0)), some (.ref (ρ 30 0)), some (.ref (ρ 31 0)), some (.int i), some (.int r3.1), some (.int r6.1), none]) rfl ?_
  refine a_aload_n K (dq 540 rfl) rfl rfl ?_
  obtain ⟨r7, h7, h⟩ := bnd h
  refine a_callVi K (s_X7_thrown S  r6.2 r7 h7) v_20 rfl rfl cw_X7_thrown ml_L_147 (by decide) rfl (rest := []) rfl (Nat.le_of_ble_eq_true rfl) (dq 541 rfl) (by constructor <;> (simp only [rmk, room_1]; omega)) ?_
  refine a_iload K (dq 542 rfl) rfl ?_
  refine a_icmp_eq K (tgt := 1000) (dq 543 rfl) rfl (fun c8 => ?_) (fun c8 => ?_)
  · have h := ite_t c8 h
    refine a_iload K (dq 546 rfl) rfl ?_
    refine a_if_ne K (tgt := 1017) (dq 547 rfl) rfl (fun c9 => ?_) (fun c9 => ?_)
    · have h := ite_f c9 h
      refine a_goto K (tgt := 2476) (dq 557 rfl) rfl ?_
      obtain rfl := Option.some.inj h
      refine a_le2 (ls' := [some (.ref b), some (.ref (ρ 0 0)), some (.ref (ρ 20 0)), some (.ref (ρ 30 0)), some (.ref (ρ 31 0)), some (.int i), none, none, none]) ⟨rfl, rfl, rfl, rfl, rfl, rfl, trivial⟩ ?_
      exact hk _ _ (by simp only [rmk]; omega) (by simp only [rmk]; omega)
    · have h := ite_t c9 h
      refine a_aload_n K (dq 548 rfl) rfl rfl ?_
      refine a_iconst K (dq 549 rfl) (v := 0) rfl ?_
      refine a_lald K (dq 550 rfl) ?_
      refine a_iload K (dq 551 rfl) rfl ?_
      refine a_i2l K (dq 552 rfl) ?_
      refine a_lcmp K (dq 553 rfl) ?_
      refine a_if_eq K (tgt := 1017) (dq 554 rfl) rfl (fun c10 => ?_) (fun c10 => ?_)
      · have h := ite_t c10 h
        refine a_goto K (tgt := 2476) (dq 557 rfl) rfl ?_
        obtain rfl := Option.some.inj h
        refine a_le2 (ls' := [some (.ref b), some (.ref (ρ 0 0)), some (.ref (ρ 20 0)), some (.ref (ρ 30 0)), some (.ref (ρ 31 0)), some (.int i), none, none, none]) ⟨rfl, rfl, rfl, rfl, rfl, rfl, trivial⟩ ?_
        exact hk _ _ (by simp only [rmk]; omega) (by simp only [rmk]; omega)
      · have h := ite_f c10 h
        refine a_iconst K (dq 555 rfl) (v := 0) rfl ?_
        cases h
  · have h := ite_f c8 h
    refine a_iconst K (dq 544 rfl) (v := 0) rfl ?_
    cases h
def p_lc_12 (xs : Nat → Int32) (L : Nat) (i : Int32) (σ : Sg) : Option Sg := if ib (i + 1) L then (if ib (i + 2) L then ((p_L_sum (xs (i + 1).toNatClampNeg) (xs (i + 2).toNatClampNeg) σ).bind fun r3 => if ib (i + 1) L then (if ib (i + 2) L then ((p_X7_sum (xs (i + 1).toNatClampNeg) (xs (i + 2).toNatClampNeg) r3.2).bind fun r6 => (p_X7_thrown  r6.2).bind fun r7 => if r7 = r3.1 then (if r3.1 = 0 then (if (lg_cmp (gL r6.2) r6.1.toInt64) = 0 then (some r6.2) else (none)) else (some r6.2)) else (none)) else none) else none) else none) else none
set_option maxRecDepth 20000 in
set_option maxHeartbeats 1000000 in
theorem s_lc_12 {l : Launch} {D : va_G} {ty : Nat → ClassId} {ρ : Nat → Nat → Nat} {N0 : Nat} (S : St l ty ρ N0) {xs : Nat → Int32} {L b : Nat} (i : Int32) (σ σ9 : Sg) (h : p_lc_12 xs L i σ = some σ9) {p : Program} {e : Env} {s : State} {m : MethodId} {args : Array Value} {below : List Frame} {meth : Method} {c : Code} {Q : State → Prop} (K : Cx p l s m args meth c code 9 RL ret D ty ρ N0) (hX : va_X b L xs s s.heap) (hbl : b < s.heap.size) (hbA : ¬ N0 ≤ b) {cs ss : Nat} (hcs : cs + 20 ≤ 603072) (hss : ss + 120 ≤ 7207018) (hk : ∀ c9 s9, c9 ≤ cs + 20 → s9 ≤ ss + 120 → WA p l e room_1 s m args below meth c D ty ρ N0 9 Q 2476 [some (.ref b), some (.ref (ρ 0 0)), some (.ref (ρ 20 0)), some (.ref (ρ 30 0)), some (.ref (ρ 31 0)), some (.int i), none, none, none] [] σ9 c9 s9) : WA p l e room_1 s m args below meth c D ty ρ N0 9 Q 1020 [some (.ref b), some (.ref (ρ 0 0)), some (.ref (ρ 20 0)), some (.ref (ρ 30 0)), some (.ref (ρ 31 0)), some (.int i), none, none, none] [] σ cs ss := by
  have dq := @tat _ _ dt_law
  unfold p_lc_12 at h
  refine a_aload_n K (dq 558 rfl) rfl rfl ?_
  refine a_aload_n K (dq 559 rfl) rfl rfl ?_
  refine a_iload K (dq 560 rfl) rfl ?_
  refine a_iconst K (dq 561 rfl) (v := 1) rfl ?_
  refine a_iadd K (dq 562 rfl) ?_
  obtain ⟨c1, h⟩ := ib_some h
  refine a_sld K hX hbl hbA c1 (dq 563 rfl) ?_
  refine a_aload_n K (dq 564 rfl) rfl rfl ?_
  refine a_iload K (dq 565 rfl) rfl ?_
  refine a_iconst K (dq 566 rfl) (v := 2) rfl ?_
  refine a_iadd K (dq 567 rfl) ?_
  obtain ⟨c2, h⟩ := ib_some h
  refine a_sld K hX hbl hbA c2 (dq 568 rfl) ?_
  refine a_aload_n K (dq 569 rfl) rfl rfl ?_
  obtain ⟨r3, h3, h⟩ := bnd h
  refine a_callH K (s_L_sum S (xs (i + 1).toNatClampNeg) (xs (i + 2).toNatClampNeg) σ r3 h3) cw_L_sum mh_L_185 (by decide) rfl (rest := []) rfl (Nat.le_of_ble_eq_true rfl) (dq 570 rfl) (by constructor <;> (simp only [rmk, room_1]; omega)) ?_
  refine a_istore K (dq 571 rfl) (Nat.le_of_ble_eq_true rfl) (ls' := [some (.ref b), some (.ref (ρ 0 0)), some (.ref (ρ 20 0)), some (.ref (ρ 30 0)), some (.ref (ρ 31 0)), some (.int i), some (.int r3.1), none, none]) rfl ?_
  refine a_aload_n K (dq 572 rfl) rfl rfl ?_
  refine a_aload_n K (dq 573 rfl) rfl rfl ?_
  refine a_iload K (dq 574 rfl) rfl ?_
  refine a_iconst K (dq 575 rfl) (v := 1) rfl ?_
  refine a_iadd K (dq 576 rfl) ?_
  obtain ⟨c4, h⟩ := ib_some h
  refine a_sld K hX hbl hbA c4 (dq 577 rfl) ?_
  refine a_aload_n K (dq 578 rfl) rfl rfl ?_
  refine a_iload K (dq 579 rfl) rfl ?_
  refine a_iconst K (dq 580 rfl) (v := 2) rfl ?_
  refine a_iadd K (dq 581 rfl) ?_
  obtain ⟨c5, h⟩ := ib_some h
  refine a_sld K hX hbl hbA c5 (dq 582 rfl) ?_
  obtain ⟨r6, h6, h⟩ := bnd h
  refine a_callVi K (s_X7_sum S (xs (i + 1).toNatClampNeg) (xs (i + 2).toNatClampNeg) r3.2 r6 h6) v_20 rfl rfl cw_X7_sum ml_L_187 (by decide) rfl (rest := []) rfl (Nat.le_of_ble_eq_true rfl) (dq 583 rfl) (by constructor <;> (simp only [rmk, room_1]; omega)) ?_
  refine a_istore K (dq 584 rfl) (Nat.le_of_ble_eq_true rfl) (ls' := [some (.ref b), some (.ref (ρ 0 0)), some (.ref (ρ 20 0)), some (.ref (ρ 30 0)), some (.ref (ρ 31 0)), some (.int i), some (.int r3.1), some (.int r6.1), none]) rfl ?_
  refine a_aload_n K (dq 585 rfl) rfl rfl ?_
  obtain ⟨r7, h7, h⟩ := bnd h
  refine a_callVi K (s_X7_thrown S  r6.2 r7 h7) v_20 rfl rfl cw_X7_thrown ml_L_147 (by decide) rfl (rest := []) rfl (Nat.le_of_ble_eq_true rfl) (dq 586 rfl) (by constructor <;> (simp only [rmk, room_1]; omega)) ?_
  refine a_iload K (dq 587 rfl) rfl ?_
  refine a_icmp_eq K (tgt := 1068) (dq 588 rfl) rfl (fun c8 => ?_) (fun c8 => ?_)
  · have h := ite_t c8 h
    refine a_iload K (dq 591 rfl) rfl ?_
    refine a_if_ne K (tgt := 1085) (dq 592 rfl) rfl (fun c9 => ?_) (fun c9 => ?_)
    · have h := ite_f c9 h
      refine a_goto K (tgt := 2476) (dq 602 rfl) rfl ?_
      obtain rfl := Option.some.inj h
      refine a_le2 (ls' := [some (.ref b), some (.ref (ρ 0 0)), some (.ref (ρ 20 0)), some (.ref (ρ 30 0)), some (.ref (ρ 31 0)), some (.int i), none, none, none]) ⟨rfl, rfl, rfl, rfl, rfl, rfl, trivial⟩ ?_
      exact hk _ _ (by simp only [rmk]; omega) (by simp only [rmk]; omega)
    · have h := ite_t c9 h
      refine a_aload_n K (dq 593 rfl) rfl rfl ?_
      refine a_iconst K (dq 594 rfl) (v := 0) rfl ?_
      refine a_lald K (dq 595 rfl) ?_
      refine a_iload K (dq 596 rfl) rfl ?_
      refine a_i2l K (dq 597 rfl) ?_
      refine a_lcmp K (dq 598 rfl) ?_
      refine a_if_eq K (tgt := 1085) (dq 599 rfl) rfl (fun c10 => ?_) (fun c10 => ?_)
      · have h := ite_t c10 h
        refine a_goto K (tgt := 2476) (dq 602 rfl) rfl ?_
        obtain rfl := Option.some.inj h
        refine a_le2 (ls' := [some (.ref b), some (.ref (ρ 0 0)), some (.ref (ρ 20 0)), some (.ref (ρ 30 0)), some (.ref (ρ 31 0)), some (.int i), none, none, none]) ⟨rfl, rfl, rfl, rfl, rfl, rfl, trivial⟩ ?_
        exact hk _ _ (by simp only [rmk]; omega) (by simp only [rmk]; omega)
      · have h := ite_f c10 h
        refine a_iconst K (dq 600 rfl) (v := 0) rfl ?_
        cases h
  · have h := ite_f c8 h
    refine a_iconst K (dq 589 rfl) (v := 0) rfl ?_
    cases h
def p_lc_13 (xs : Nat → Int32) (L : Nat) (i : Int32) (σ : Sg) : Option Sg := if ib (i + 1) L then (if ib (i + 2) L then ((p_L_sumAgain (xs (i + 1).toNatClampNeg) (xs (i + 2).toNatClampNeg) σ).bind fun r3 => if ib (i + 1) L then (if ib (i + 2) L then ((p_X7_sumAgain (xs (i + 1).toNatClampNeg) (xs (i + 2).toNatClampNeg) r3.2).bind fun r6 => (p_X7_thrown  r6.2).bind fun r7 => if r7 = r3.1 then (if r3.1 = 0 then (if (lg_cmp (gL r6.2) r6.1.toInt64) = 0 then (some r6.2) else (none)) else (some r6.2)) else (none)) else none) else none) else none) else none
set_option maxRecDepth 20000 in
set_option maxHeartbeats 1000000 in
theorem s_lc_13 {l : Launch} {D : va_G} {ty : Nat → ClassId} {ρ : Nat → Nat → Nat} {N0 : Nat} (S : St l ty ρ N0) {xs : Nat → Int32} {L b : Nat} (i : Int32) (σ σ9 : Sg) (h : p_lc_13 xs L i σ = some σ9) {p : Program} {e : Env} {s : State} {m : MethodId} {args : Array Value} {below : List Frame} {meth : Method} {c : Code} {Q : State → Prop} (K : Cx p l s m args meth c code 9 RL ret D ty ρ N0) (hX : va_X b L xs s s.heap) (hbl : b < s.heap.size) (hbA : ¬ N0 ≤ b) {cs ss : Nat} (hcs : cs + 20 ≤ 603072) (hss : ss + 120 ≤ 7207018) (hk : ∀ c9 s9, c9 ≤ cs + 20 → s9 ≤ ss + 120 → WA p l e room_1 s m args below meth c D ty ρ N0 9 Q 2476 [some (.ref b), some (.ref (ρ 0 0)), some (.ref (ρ 20 0)), some (.ref (ρ 30 0)), some (.ref (ρ 31 0)), some (.int i), none, none, none] [] σ9 c9 s9) : WA p l e room_1 s m args below meth c D ty ρ N0 9 Q 1088 [some (.ref b), some (.ref (ρ 0 0)), some (.ref (ρ 20 0)), some (.ref (ρ 30 0)), some (.ref (ρ 31 0)), some (.int i), none, none, none] [] σ cs ss := by
  have dq := @tat _ _ dt_law
  unfold p_lc_13 at h
  refine a_aload_n K (dq 603 rfl) rfl rfl ?_
  refine a_aload_n K (dq 604 rfl) rfl rfl ?_
  refine a_iload K (dq 605 rfl) rfl ?_
  refine a_iconst K (dq 606 rfl) (v := 1) rfl ?_
  refine a_iadd K (dq 607 rfl) ?_
  obtain ⟨c1, h⟩ := ib_some h
  refine a_sld K hX hbl hbA c1 (dq 608 rfl) ?_
  refine a_aload_n K (dq 609 rfl) rfl rfl ?_
  refine a_iload K (dq 610 rfl) rfl ?_
  refine a_iconst K (dq 611 rfl) (v := 2) rfl ?_
  refine a_iadd K (dq 612 rfl) ?_
  obtain ⟨c2, h⟩ := ib_some h
  refine a_sld K hX hbl hbA c2 (dq 613 rfl) ?_
  refine a_aload_n K (dq 614 rfl) rfl rfl ?_
  obtain ⟨r3, h3, h⟩ := bnd h
  refine a_callH K (s_L_sumAgain S (xs (i + 1).toNatClampNeg) (xs (i + 2).toNatClampNeg) σ r3 h3) cw_L_sumAgain mh_L_188 (by decide) rfl (rest := []) rfl (Nat.le_of_ble_eq_true rfl) (dq 615 rfl) (by constructor <;> (simp only [rmk, room_1]; omega)) ?_
  refine a_istore K (dq 616 rfl) (Nat.le_of_ble_eq_true rfl) (ls' := [some (.ref b), some (.ref (ρ 0 0)), some (.ref (ρ 20 0)), some (.ref (ρ 30 0)), some (.ref (ρ 31 0)), some (.int i), some (.int r3.1), none, none]) rfl ?_
  refine a_aload_n K (dq 617 rfl) rfl rfl ?_
  refine a_aload_n K (dq 618 rfl) rfl rfl ?_
  refine a_iload K (dq 619 rfl) rfl ?_
  refine a_iconst K (dq 620 rfl) (v := 1) rfl ?_
  refine a_iadd K (dq 621 rfl) ?_
  obtain ⟨c4, h⟩ := ib_some h
  refine a_sld K hX hbl hbA c4 (dq 622 rfl) ?_
  refine a_aload_n K (dq 623 rfl) rfl rfl ?_
  refine a_iload K (dq 624 rfl) rfl ?_
  refine a_iconst K (dq 625 rfl) (v := 2) rfl ?_
  refine a_iadd K (dq 626 rfl) ?_
  obtain ⟨c5, h⟩ := ib_some h
  refine a_sld K hX hbl hbA c5 (dq 627 rfl) ?_
  obtain ⟨r6, h6, h⟩ := bnd h
  refine a_callVi K (s_X7_sumAgain S (xs (i + 1).toNatClampNeg) (xs (i + 2).toNatClampNeg) r3.2 r6 h6) v_20 rfl rfl cw_X7_sumAgain ml_L_190 (by decide) rfl (rest := []) rfl (Nat.le_of_ble_eq_true rfl) (dq 628 rfl) (by constructor <;> (simp only [rmk, room_1]; omega)) ?_
  refine a_istore K (dq 629 rfl) (Nat.le_of_ble_eq_true rfl) (ls' := [some (.ref b), some (.ref (ρ 0 0)), some (.ref (ρ 20 0)), some (.ref (ρ 30 0)), some (.ref (ρ 31 0)), some (.int i), some (.int r3.1), some (.int r6.1), none]) rfl ?_
  refine a_aload_n K (dq 630 rfl) rfl rfl ?_
  obtain ⟨r7, h7, h⟩ := bnd h
  refine a_callVi K (s_X7_thrown S  r6.2 r7 h7) v_20 rfl rfl cw_X7_thrown ml_L_147 (by decide) rfl (rest := []) rfl (Nat.le_of_ble_eq_true rfl) (dq 631 rfl) (by constructor <;> (simp only [rmk, room_1]; omega)) ?_
  refine a_iload K (dq 632 rfl) rfl ?_
  refine a_icmp_eq K (tgt := 1136) (dq 633 rfl) rfl (fun c8 => ?_) (fun c8 => ?_)
  · have h := ite_t c8 h
    refine a_iload K (dq 636 rfl) rfl ?_
    refine a_if_ne K (tgt := 1153) (dq 637 rfl) rfl (fun c9 => ?_) (fun c9 => ?_)
    · have h := ite_f c9 h
      refine a_goto K (tgt := 2476) (dq 647 rfl) rfl ?_
      obtain rfl := Option.some.inj h
      refine a_le2 (ls' := [some (.ref b), some (.ref (ρ 0 0)), some (.ref (ρ 20 0)), some (.ref (ρ 30 0)), some (.ref (ρ 31 0)), some (.int i), none, none, none]) ⟨rfl, rfl, rfl, rfl, rfl, rfl, trivial⟩ ?_
      exact hk _ _ (by simp only [rmk]; omega) (by simp only [rmk]; omega)
    · have h := ite_t c9 h
      refine a_aload_n K (dq 638 rfl) rfl rfl ?_
      refine a_iconst K (dq 639 rfl) (v := 0) rfl ?_
      refine a_lald K (dq 640 rfl) ?_
      refine a_iload K (dq 641 rfl) rfl ?_
      refine a_i2l K (dq 642 rfl) ?_
      refine a_lcmp K (dq 643 rfl) ?_
      refine a_if_eq K (tgt := 1153) (dq 644 rfl) rfl (fun c10 => ?_) (fun c10 => ?_)
      · have h := ite_t c10 h
        refine a_goto K (tgt := 2476) (dq 647 rfl) rfl ?_
        obtain rfl := Option.some.inj h
        refine a_le2 (ls' := [some (.ref b), some (.ref (ρ 0 0)), some (.ref (ρ 20 0)), some (.ref (ρ 30 0)), some (.ref (ρ 31 0)), some (.int i), none, none, none]) ⟨rfl, rfl, rfl, rfl, rfl, rfl, trivial⟩ ?_
        exact hk _ _ (by simp only [rmk]; omega) (by simp only [rmk]; omega)
      · have h := ite_f c10 h
        refine a_iconst K (dq 645 rfl) (v := 0) rfl ?_
        cases h
  · have h := ite_f c8 h
    refine a_iconst K (dq 634 rfl) (v := 0) rfl ?_
    cases h
def p_lc_14 (xs : Nat → Int32) (L : Nat) (i : Int32) (σ : Sg) : Option Sg := if ib (i + 1) L then (if ib (i + 2) L then ((p_L_dearest (xs (i + 1).toNatClampNeg) (xs (i + 2).toNatClampNeg) σ).bind fun r3 => if ib (i + 1) L then (if ib (i + 2) L then ((p_X7_dearest (xs (i + 1).toNatClampNeg) (xs (i + 2).toNatClampNeg) r3.2).bind fun r6 => (p_X7_thrown  r6.2).bind fun r7 => if r7 = r3.1 then (if r3.1 = 0 then (if (lg_cmp (gL r6.2) r6.1.toInt64) = 0 then (some r6.2) else (none)) else (some r6.2)) else (none)) else none) else none) else none) else none
set_option maxRecDepth 20000 in
set_option maxHeartbeats 1000000 in
theorem s_lc_14 {l : Launch} {D : va_G} {ty : Nat → ClassId} {ρ : Nat → Nat → Nat} {N0 : Nat} (S : St l ty ρ N0) {xs : Nat → Int32} {L b : Nat} (i : Int32) (σ σ9 : Sg) (h : p_lc_14 xs L i σ = some σ9) {p : Program} {e : Env} {s : State} {m : MethodId} {args : Array Value} {below : List Frame} {meth : Method} {c : Code} {Q : State → Prop} (K : Cx p l s m args meth c code 9 RL ret D ty ρ N0) (hX : va_X b L xs s s.heap) (hbl : b < s.heap.size) (hbA : ¬ N0 ≤ b) {cs ss : Nat} (hcs : cs + 20 ≤ 603072) (hss : ss + 120 ≤ 7207018) (hk : ∀ c9 s9, c9 ≤ cs + 20 → s9 ≤ ss + 120 → WA p l e room_1 s m args below meth c D ty ρ N0 9 Q 2476 [some (.ref b), some (.ref (ρ 0 0)), some (.ref (ρ 20 0)), some (.ref (ρ 30 0)), some (.ref (ρ 31 0)), some (.int i), none, none, none] [] σ9 c9 s9) : WA p l e room_1 s m args below meth c D ty ρ N0 9 Q 1156 [some (.ref b), some (.ref (ρ 0 0)), some (.ref (ρ 20 0)), some (.ref (ρ 30 0)), some (.ref (ρ 31 0)), some (.int i), none, none, none] [] σ cs ss := by
  have dq := @tat _ _ dt_law
  unfold p_lc_14 at h
  refine a_aload_n K (dq 648 rfl) rfl rfl ?_
  refine a_aload_n K (dq 649 rfl) rfl rfl ?_
  refine a_iload K (dq 650 rfl) rfl ?_
  refine a_iconst K (dq 651 rfl) (v := 1) rfl ?_
  refine a_iadd K (dq 652 rfl) ?_
  obtain ⟨c1, h⟩ := ib_some h
  refine a_sld K hX hbl hbA c1 (dq 653 rfl) ?_
  refine a_aload_n K (dq 654 rfl) rfl rfl ?_
  refine a_iload K (dq 655 rfl) rfl ?_
  refine a_iconst K (dq 656 rfl) (v := 2) rfl ?_
  refine a_iadd K (dq 657 rfl) ?_
  obtain ⟨c2, h⟩ := ib_some h
  refine a_sld K hX hbl hbA c2 (dq 658 rfl) ?_
  refine a_aload_n K (dq 659 rfl) rfl rfl ?_
  obtain ⟨r3, h3, h⟩ := bnd h
  refine a_callH K (s_L_dearest S (xs (i + 1).toNatClampNeg) (xs (i + 2).toNatClampNeg) σ r3 h3) cw_L_dearest mh_L_191 (by decide) rfl (rest := []) rfl (Nat.le_of_ble_eq_true rfl) (dq 660 rfl) (by constructor <;> (simp only [rmk, room_1]; omega)) ?_
  refine a_istore K (dq 661 rfl) (Nat.le_of_ble_eq_true rfl) (ls' := [some (.ref b), some (.ref (ρ 0 0)), some (.ref (ρ 20 0)), some (.ref (ρ 30 0)), some (.ref (ρ 31 0)), some (.int i), some (.int r3.1), none, none]) rfl ?_
  refine a_aload_n K (dq 662 rfl) rfl rfl ?_
  refine a_aload_n K (dq 663 rfl) rfl rfl ?_
  refine a_iload K (dq 664 rfl) rfl ?_
  refine a_iconst K (dq 665 rfl) (v := 1) rfl ?_
  refine a_iadd K (dq 666 rfl) ?_
  obtain ⟨c4, h⟩ := ib_some h
  refine a_sld K hX hbl hbA c4 (dq 667 rfl) ?_
  refine a_aload_n K (dq 668 rfl) rfl rfl ?_
  refine a_iload K (dq 669 rfl) rfl ?_
  refine a_iconst K (dq 670 rfl) (v := 2) rfl ?_
  refine a_iadd K (dq 671 rfl) ?_
  obtain ⟨c5, h⟩ := ib_some h
  refine a_sld K hX hbl hbA c5 (dq 672 rfl) ?_
  obtain ⟨r6, h6, h⟩ := bnd h
  refine a_callVi K (s_X7_dearest S (xs (i + 1).toNatClampNeg) (xs (i + 2).toNatClampNeg) r3.2 r6 h6) v_20 rfl rfl cw_X7_dearest ml_L_193 (by decide) rfl (rest := []) rfl (Nat.le_of_ble_eq_true rfl) (dq 673 rfl) (by constructor <;> (simp only [rmk, room_1]; omega)) ?_
  refine a_istore K (dq 674 rfl) (Nat.le_of_ble_eq_true rfl) (ls' := [some (.ref b), some (.ref (ρ 0 0)), some (.ref (ρ 20 0)), some (.ref (ρ 30 0)), some (.ref (ρ 31 0)), some (.int i), some (.int r3.1), some (.int r6.1), none]) rfl ?_
  refine a_aload_n K (dq 675 rfl) rfl rfl ?_
  obtain ⟨r7, h7, h⟩ := bnd h
  refine a_callVi K (s_X7_thrown S  r6.2 r7 h7) v_20 rfl rfl cw_X7_thrown ml_L_147 (by decide) rfl (rest := []) rfl (Nat.le_of_ble_eq_true rfl) (dq 676 rfl) (by constructor <;> (simp only [rmk, room_1]; omega)) ?_
  refine a_iload K (dq 677 rfl) rfl ?_
  refine a_icmp_eq K (tgt := 1204) (dq 678 rfl) rfl (fun c8 => ?_) (fun c8 => ?_)
  · have h := ite_t c8 h
    refine a_iload K (dq 681 rfl) rfl ?_
    refine a_if_ne K (tgt := 1221) (dq 682 rfl) rfl (fun c9 => ?_) (fun c9 => ?_)
    · have h := ite_f c9 h
      refine a_goto K (tgt := 2476) (dq 692 rfl) rfl ?_
      obtain rfl := Option.some.inj h
      refine a_le2 (ls' := [some (.ref b), some (.ref (ρ 0 0)), some (.ref (ρ 20 0)), some (.ref (ρ 30 0)), some (.ref (ρ 31 0)), some (.int i), none, none, none]) ⟨rfl, rfl, rfl, rfl, rfl, rfl, trivial⟩ ?_
      exact hk _ _ (by simp only [rmk]; omega) (by simp only [rmk]; omega)
    · have h := ite_t c9 h
      refine a_aload_n K (dq 683 rfl) rfl rfl ?_
      refine a_iconst K (dq 684 rfl) (v := 0) rfl ?_
      refine a_lald K (dq 685 rfl) ?_
      refine a_iload K (dq 686 rfl) rfl ?_
      refine a_i2l K (dq 687 rfl) ?_
      refine a_lcmp K (dq 688 rfl) ?_
      refine a_if_eq K (tgt := 1221) (dq 689 rfl) rfl (fun c10 => ?_) (fun c10 => ?_)
      · have h := ite_t c10 h
        refine a_goto K (tgt := 2476) (dq 692 rfl) rfl ?_
        obtain rfl := Option.some.inj h
        refine a_le2 (ls' := [some (.ref b), some (.ref (ρ 0 0)), some (.ref (ρ 20 0)), some (.ref (ρ 30 0)), some (.ref (ρ 31 0)), some (.int i), none, none, none]) ⟨rfl, rfl, rfl, rfl, rfl, rfl, trivial⟩ ?_
        exact hk _ _ (by simp only [rmk]; omega) (by simp only [rmk]; omega)
      · have h := ite_f c10 h
        refine a_iconst K (dq 690 rfl) (v := 0) rfl ?_
        cases h
  · have h := ite_f c8 h
    refine a_iconst K (dq 679 rfl) (v := 0) rfl ?_
    cases h
def p_lc_15 (xs : Nat → Int32) (L : Nat) (i : Int32) (σ : Sg) : Option Sg := if ib (i + 1) L then (if ib (i + 2) L then ((p_L_isJoined (xs (i + 1).toNatClampNeg) (xs (i + 2).toNatClampNeg) σ).bind fun r3 => if ib (i + 1) L then (if ib (i + 2) L then ((p_X7_isJoined (xs (i + 1).toNatClampNeg) (xs (i + 2).toNatClampNeg) r3.2).bind fun r6 => (p_X7_thrown  r6.2).bind fun r7 => if r7 = r3.1 then (if r3.1 = 0 then (if r6.1 = 0 then (if (lg_cmp (gL r6.2) 0) = 0 then (some r6.2) else (none)) else (if (lg_cmp (gL r6.2) 1) = 0 then (some r6.2) else (none))) else (some r6.2)) else (none)) else none) else none) else none) else none
set_option maxRecDepth 20000 in
set_option maxHeartbeats 1000000 in
theorem s_lc_15 {l : Launch} {D : va_G} {ty : Nat → ClassId} {ρ : Nat → Nat → Nat} {N0 : Nat} (S : St l ty ρ N0) {xs : Nat → Int32} {L b : Nat} (i : Int32) (σ σ9 : Sg) (h : p_lc_15 xs L i σ = some σ9) {p : Program} {e : Env} {s : State} {m : MethodId} {args : Array Value} {below : List Frame} {meth : Method} {c : Code} {Q : State → Prop} (K : Cx p l s m args meth c code 9 RL ret D ty ρ N0) (hX : va_X b L xs s s.heap) (hbl : b < s.heap.size) (hbA : ¬ N0 ≤ b) {cs ss : Nat} (hcs : cs + 20 ≤ 603072) (hss : ss + 120 ≤ 7207018) (hk : ∀ c9 s9, c9 ≤ cs + 20 → s9 ≤ ss + 120 → WA p l e room_1 s m args below meth c D ty ρ N0 9 Q 2476 [some (.ref b), some (.ref (ρ 0 0)), some (.ref (ρ 20 0)), some (.ref (ρ 30 0)), some (.ref (ρ 31 0)), some (.int i), none, none, none] [] σ9 c9 s9) : WA p l e room_1 s m args below meth c D ty ρ N0 9 Q 1224 [some (.ref b), some (.ref (ρ 0 0)), some (.ref (ρ 20 0)), some (.ref (ρ 30 0)), some (.ref (ρ 31 0)), some (.int i), none, none, none] [] σ cs ss := by
  have dq := @tat _ _ dt_law
  unfold p_lc_15 at h
  refine a_aload_n K (dq 693 rfl) rfl rfl ?_
  refine a_aload_n K (dq 694 rfl) rfl rfl ?_
  refine a_iload K (dq 695 rfl) rfl ?_
  refine a_iconst K (dq 696 rfl) (v := 1) rfl ?_
  refine a_iadd K (dq 697 rfl) ?_
  obtain ⟨c1, h⟩ := ib_some h
  refine a_sld K hX hbl hbA c1 (dq 698 rfl) ?_
  refine a_aload_n K (dq 699 rfl) rfl rfl ?_
  refine a_iload K (dq 700 rfl) rfl ?_
  refine a_iconst K (dq 701 rfl) (v := 2) rfl ?_
  refine a_iadd K (dq 702 rfl) ?_
  obtain ⟨c2, h⟩ := ib_some h
  refine a_sld K hX hbl hbA c2 (dq 703 rfl) ?_
  refine a_aload_n K (dq 704 rfl) rfl rfl ?_
  obtain ⟨r3, h3, h⟩ := bnd h
  refine a_callH K (s_L_isJoined S (xs (i + 1).toNatClampNeg) (xs (i + 2).toNatClampNeg) σ r3 h3) cw_L_isJoined mh_L_194 (by decide) rfl (rest := []) rfl (Nat.le_of_ble_eq_true rfl) (dq 705 rfl) (by constructor <;> (simp only [rmk, room_1]; omega)) ?_
  refine a_istore K (dq 706 rfl) (Nat.le_of_ble_eq_true rfl) (ls' := [some (.ref b), some (.ref (ρ 0 0)), some (.ref (ρ 20 0)), some (.ref (ρ 30 0)), some (.ref (ρ 31 0)), some (.int i), some (.int r3.1), none, none]) rfl ?_
  refine a_aload_n K (dq 707 rfl) rfl rfl ?_
  refine a_aload_n K (dq 708 rfl) rfl rfl ?_
  refine a_iload K (dq 709 rfl) rfl ?_
  refine a_iconst K (dq 710 rfl) (v := 1) rfl ?_
  refine a_iadd K (dq 711 rfl) ?_
  obtain ⟨c4, h⟩ := ib_some h
  refine a_sld K hX hbl hbA c4 (dq 712 rfl) ?_
  refine a_aload_n K (dq 713 rfl) rfl rfl ?_
  refine a_iload K (dq 714 rfl) rfl ?_
  refine a_iconst K (dq 715 rfl) (v := 2) rfl ?_
  refine a_iadd K (dq 716 rfl) ?_
  obtain ⟨c5, h⟩ := ib_some h
  refine a_sld K hX hbl hbA c5 (dq 717 rfl) ?_
  obtain ⟨r6, h6, h⟩ := bnd h
  refine a_callVi K (s_X7_isJoined S (xs (i + 1).toNatClampNeg) (xs (i + 2).toNatClampNeg) r3.2 r6 h6) v_20 rfl rfl cw_X7_isJoined ml_L_196 (by decide) rfl (rest := []) rfl (Nat.le_of_ble_eq_true rfl) (dq 718 rfl) (by constructor <;> (simp only [rmk, room_1]; omega)) ?_
  refine a_istore K (dq 719 rfl) (Nat.le_of_ble_eq_true rfl) (ls' := [some (.ref b), some (.ref (ρ 0 0)), some (.ref (ρ 20 0)), some (.ref (ρ 30 0)), some (.ref (ρ 31 0)), some (.int i), some (.int r3.1), some (.int r6.1), none]) rfl ?_
  refine a_aload_n K (dq 720 rfl) rfl rfl ?_
  obtain ⟨r7, h7, h⟩ := bnd h
  refine a_callVi K (s_X7_thrown S  r6.2 r7 h7) v_20 rfl rfl cw_X7_thrown ml_L_147 (by decide) rfl (rest := []) rfl (Nat.le_of_ble_eq_true rfl) (dq 721 rfl) (by constructor <;> (simp only [rmk, room_1]; omega)) ?_
  refine a_iload K (dq 722 rfl) rfl ?_
  refine a_icmp_eq K (tgt := 1272) (dq 723 rfl) rfl (fun c8 => ?_) (fun c8 => ?_)
  · have h := ite_t c8 h
    refine a_iload K (dq 726 rfl) rfl ?_
    refine a_if_ne K (tgt := 1296) (dq 727 rfl) rfl (fun c9 => ?_) (fun c9 => ?_)
    · have h := ite_f c9 h
      refine a_goto K (tgt := 2476) (dq 740 rfl) rfl ?_
      obtain rfl := Option.some.inj h
      refine a_le2 (ls' := [some (.ref b), some (.ref (ρ 0 0)), some (.ref (ρ 20 0)), some (.ref (ρ 30 0)), some (.ref (ρ 31 0)), some (.int i), none, none, none]) ⟨rfl, rfl, rfl, rfl, rfl, rfl, trivial⟩ ?_
      exact hk _ _ (by simp only [rmk]; omega) (by simp only [rmk]; omega)
    · have h := ite_t c9 h
      refine a_aload_n K (dq 728 rfl) rfl rfl ?_
      refine a_iconst K (dq 729 rfl) (v := 0) rfl ?_
      refine a_lald K (dq 730 rfl) ?_
      refine a_iload K (dq 731 rfl) rfl ?_
      refine a_if_eq K (tgt := 1289) (dq 732 rfl) rfl (fun c10 => ?_) (fun c10 => ?_)
      · have h := ite_t c10 h
        refine a_lconst K (dq 735 rfl) (v := 0) rfl ?_
        refine a_lcmp K (dq 736 rfl) ?_
        refine a_if_eq K (tgt := 1296) (dq 737 rfl) rfl (fun c11 => ?_) (fun c11 => ?_)
        · have h := ite_t c11 h
          refine a_goto K (tgt := 2476) (dq 740 rfl) rfl ?_
          obtain rfl := Option.some.inj h
          refine a_le2 (ls' := [some (.ref b), some (.ref (ρ 0 0)), some (.ref (ρ 20 0)), some (.ref (ρ 30 0)), some (.ref (ρ 31 0)), some (.int i), none, none, none]) ⟨rfl, rfl, rfl, rfl, rfl, rfl, trivial⟩ ?_
          exact hk _ _ (by simp only [rmk]; omega) (by simp only [rmk]; omega)
        · have h := ite_f c11 h
          refine a_iconst K (dq 738 rfl) (v := 0) rfl ?_
          cases h
      · have h := ite_f c10 h
        refine a_lconst K (dq 733 rfl) (v := 1) rfl ?_
        refine a_goto K (tgt := 1290) (dq 734 rfl) rfl ?_
        refine a_lcmp K (dq 736 rfl) ?_
        refine a_if_eq K (tgt := 1296) (dq 737 rfl) rfl (fun c12 => ?_) (fun c12 => ?_)
        · have h := ite_t c12 h
          refine a_goto K (tgt := 2476) (dq 740 rfl) rfl ?_
          obtain rfl := Option.some.inj h
          refine a_le2 (ls' := [some (.ref b), some (.ref (ρ 0 0)), some (.ref (ρ 20 0)), some (.ref (ρ 30 0)), some (.ref (ρ 31 0)), some (.int i), none, none, none]) ⟨rfl, rfl, rfl, rfl, rfl, rfl, trivial⟩ ?_
          exact hk _ _ (by simp only [rmk]; omega) (by simp only [rmk]; omega)
        · have h := ite_f c12 h
          refine a_iconst K (dq 738 rfl) (v := 0) rfl ?_
          cases h
  · have h := ite_f c8 h
    refine a_iconst K (dq 724 rfl) (v := 0) rfl ?_
    cases h
def p_lc_16 (xs : Nat → Int32) (L : Nat) (i : Int32) (σ : Sg) : Option Sg := if ib (i + 1) L then (if ib (i + 2) L then ((p_L_isTrack (xs (i + 1).toNatClampNeg) (xs (i + 2).toNatClampNeg) σ).bind fun r3 => if ib (i + 1) L then (if ib (i + 2) L then ((p_X7_isTrack (xs (i + 1).toNatClampNeg) (xs (i + 2).toNatClampNeg) r3.2).bind fun r6 => (p_X7_thrown  r6.2).bind fun r7 => if r7 = r3.1 then (if r3.1 = 0 then (if r6.1 = 0 then (if (lg_cmp (gL r6.2) 0) = 0 then (some r6.2) else (none)) else (if (lg_cmp (gL r6.2) 1) = 0 then (some r6.2) else (none))) else (some r6.2)) else (none)) else none) else none) else none) else none
set_option maxRecDepth 20000 in
set_option maxHeartbeats 1000000 in
theorem s_lc_16 {l : Launch} {D : va_G} {ty : Nat → ClassId} {ρ : Nat → Nat → Nat} {N0 : Nat} (S : St l ty ρ N0) {xs : Nat → Int32} {L b : Nat} (i : Int32) (σ σ9 : Sg) (h : p_lc_16 xs L i σ = some σ9) {p : Program} {e : Env} {s : State} {m : MethodId} {args : Array Value} {below : List Frame} {meth : Method} {c : Code} {Q : State → Prop} (K : Cx p l s m args meth c code 9 RL ret D ty ρ N0) (hX : va_X b L xs s s.heap) (hbl : b < s.heap.size) (hbA : ¬ N0 ≤ b) {cs ss : Nat} (hcs : cs + 20 ≤ 603072) (hss : ss + 120 ≤ 7207018) (hk : ∀ c9 s9, c9 ≤ cs + 20 → s9 ≤ ss + 120 → WA p l e room_1 s m args below meth c D ty ρ N0 9 Q 2476 [some (.ref b), some (.ref (ρ 0 0)), some (.ref (ρ 20 0)), some (.ref (ρ 30 0)), some (.ref (ρ 31 0)), some (.int i), none, none, none] [] σ9 c9 s9) : WA p l e room_1 s m args below meth c D ty ρ N0 9 Q 1299 [some (.ref b), some (.ref (ρ 0 0)), some (.ref (ρ 20 0)), some (.ref (ρ 30 0)), some (.ref (ρ 31 0)), some (.int i), none, none, none] [] σ cs ss := by
  have dq := @tat _ _ dt_law
  unfold p_lc_16 at h
  refine a_aload_n K (dq 741 rfl) rfl rfl ?_
  refine a_aload_n K (dq 742 rfl) rfl rfl ?_
  refine a_iload K (dq 743 rfl) rfl ?_
  refine a_iconst K (dq 744 rfl) (v := 1) rfl ?_
  refine a_iadd K (dq 745 rfl) ?_
  obtain ⟨c1, h⟩ := ib_some h
  refine a_sld K hX hbl hbA c1 (dq 746 rfl) ?_
  refine a_aload_n K (dq 747 rfl) rfl rfl ?_
  refine a_iload K (dq 748 rfl) rfl ?_
  refine a_iconst K (dq 749 rfl) (v := 2) rfl ?_
  refine a_iadd K (dq 750 rfl) ?_
  obtain ⟨c2, h⟩ := ib_some h
  refine a_sld K hX hbl hbA c2 (dq 751 rfl) ?_
  refine a_aload_n K (dq 752 rfl) rfl rfl ?_
  obtain ⟨r3, h3, h⟩ := bnd h
  refine a_callH K (s_L_isTrack S (xs (i + 1).toNatClampNeg) (xs (i + 2).toNatClampNeg) σ r3 h3) cw_L_isTrack mh_L_197 (by decide) rfl (rest := []) rfl (Nat.le_of_ble_eq_true rfl) (dq 753 rfl) (by constructor <;> (simp only [rmk, room_1]; omega)) ?_
  refine a_istore K (dq 754 rfl) (Nat.le_of_ble_eq_true rfl) (ls' := [some (.ref b), some (.ref (ρ 0 0)), some (.ref (ρ 20 0)), some (.ref (ρ 30 0)), some (.ref (ρ 31 0)), some (.int i), some (.int r3.1), none, none]) rfl ?_
  refine a_aload_n K (dq 755 rfl) rfl rfl ?_
  refine a_aload_n K (dq 756 rfl) rfl rfl ?_
  refine a_iload K (dq 757 rfl) rfl ?_
  refine a_iconst K (dq 758 rfl) (v := 1) rfl ?_
  refine a_iadd K (dq 759 rfl) ?_
  obtain ⟨c4, h⟩ := ib_some h
  refine a_sld K hX hbl hbA c4 (dq 760 rfl) ?_
  refine a_aload_n K (dq 761 rfl) rfl rfl ?_
  refine a_iload K (dq 762 rfl) rfl ?_
  refine a_iconst K (dq 763 rfl) (v := 2) rfl ?_
  refine a_iadd K (dq 764 rfl) ?_
  obtain ⟨c5, h⟩ := ib_some h
  refine a_sld K hX hbl hbA c5 (dq 765 rfl) ?_
  obtain ⟨r6, h6, h⟩ := bnd h
  refine a_callVi K (s_X7_isTrack S (xs (i + 1).toNatClampNeg) (xs (i + 2).toNatClampNeg) r3.2 r6 h6) v_20 rfl rfl cw_X7_isTrack ml_L_199 (by decide) rfl (rest := []) rfl (Nat.le_of_ble_eq_true rfl) (dq 766 rfl) (by constructor <;> (simp only [rmk, room_1]; omega)) ?_
  refine a_istore K (dq 767 rfl) (Nat.le_of_ble_eq_true rfl) (ls' := [some (.ref b), some (.ref (ρ 0 0)), some (.ref (ρ 20 0)), some (.ref (ρ 30 0)), some (.ref (ρ 31 0)), some (.int i), some (.int r3.1), some (.int r6.1), none]) rfl ?_
  refine a_aload_n K (dq 768 rfl) rfl rfl ?_
  obtain ⟨r7, h7, h⟩ := bnd h
  refine a_callVi K (s_X7_thrown S  r6.2 r7 h7) v_20 rfl rfl cw_X7_thrown ml_L_147 (by decide) rfl (rest := []) rfl (Nat.le_of_ble_eq_true rfl) (dq 769 rfl) (by constructor <;> (simp only [rmk, room_1]; omega)) ?_
  refine a_iload K (dq 770 rfl) rfl ?_
  refine a_icmp_eq K (tgt := 1347) (dq 771 rfl) rfl (fun c8 => ?_) (fun c8 => ?_)
  · have h := ite_t c8 h
    refine a_iload K (dq 774 rfl) rfl ?_
    refine a_if_ne K (tgt := 1371) (dq 775 rfl) rfl (fun c9 => ?_) (fun c9 => ?_)
    · have h := ite_f c9 h
      refine a_goto K (tgt := 2476) (dq 788 rfl) rfl ?_
      obtain rfl := Option.some.inj h
      refine a_le2 (ls' := [some (.ref b), some (.ref (ρ 0 0)), some (.ref (ρ 20 0)), some (.ref (ρ 30 0)), some (.ref (ρ 31 0)), some (.int i), none, none, none]) ⟨rfl, rfl, rfl, rfl, rfl, rfl, trivial⟩ ?_
      exact hk _ _ (by simp only [rmk]; omega) (by simp only [rmk]; omega)
    · have h := ite_t c9 h
      refine a_aload_n K (dq 776 rfl) rfl rfl ?_
      refine a_iconst K (dq 777 rfl) (v := 0) rfl ?_
      refine a_lald K (dq 778 rfl) ?_
      refine a_iload K (dq 779 rfl) rfl ?_
      refine a_if_eq K (tgt := 1364) (dq 780 rfl) rfl (fun c10 => ?_) (fun c10 => ?_)
      · have h := ite_t c10 h
        refine a_lconst K (dq 783 rfl) (v := 0) rfl ?_
        refine a_lcmp K (dq 784 rfl) ?_
        refine a_if_eq K (tgt := 1371) (dq 785 rfl) rfl (fun c11 => ?_) (fun c11 => ?_)
        · have h := ite_t c11 h
          refine a_goto K (tgt := 2476) (dq 788 rfl) rfl ?_
          obtain rfl := Option.some.inj h
          refine a_le2 (ls' := [some (.ref b), some (.ref (ρ 0 0)), some (.ref (ρ 20 0)), some (.ref (ρ 30 0)), some (.ref (ρ 31 0)), some (.int i), none, none, none]) ⟨rfl, rfl, rfl, rfl, rfl, rfl, trivial⟩ ?_
          exact hk _ _ (by simp only [rmk]; omega) (by simp only [rmk]; omega)
        · have h := ite_f c11 h
          refine a_iconst K (dq 786 rfl) (v := 0) rfl ?_
          cases h
      · have h := ite_f c10 h
        refine a_lconst K (dq 781 rfl) (v := 1) rfl ?_
        refine a_goto K (tgt := 1365) (dq 782 rfl) rfl ?_
        refine a_lcmp K (dq 784 rfl) ?_
        refine a_if_eq K (tgt := 1371) (dq 785 rfl) rfl (fun c12 => ?_) (fun c12 => ?_)
        · have h := ite_t c12 h
          refine a_goto K (tgt := 2476) (dq 788 rfl) rfl ?_
          obtain rfl := Option.some.inj h
          refine a_le2 (ls' := [some (.ref b), some (.ref (ρ 0 0)), some (.ref (ρ 20 0)), some (.ref (ρ 30 0)), some (.ref (ρ 31 0)), some (.int i), none, none, none]) ⟨rfl, rfl, rfl, rfl, rfl, rfl, trivial⟩ ?_
          exact hk _ _ (by simp only [rmk]; omega) (by simp only [rmk]; omega)
        · have h := ite_f c12 h
          refine a_iconst K (dq 786 rfl) (v := 0) rfl ?_
          cases h
  · have h := ite_f c8 h
    refine a_iconst K (dq 772 rfl) (v := 0) rfl ?_
    cases h
def p_lc_17 (xs : Nat → Int32) (L : Nat) (i : Int32) (σ : Sg) : Option Sg := if ib (i + 1) L then (if ib (i + 2) L then ((p_L_exposed (xs (i + 1).toNatClampNeg) (xs (i + 2).toNatClampNeg) σ).bind fun r3 => if ib (i + 1) L then (if ib (i + 2) L then ((p_X7_exposed (xs (i + 1).toNatClampNeg) (xs (i + 2).toNatClampNeg) r3.2).bind fun r6 => (p_X7_thrown  r6.2).bind fun r7 => if r7 = r3.1 then (if r3.1 = 0 then (if (lg_cmp (gL r6.2) r6.1.toInt64) = 0 then (some r6.2) else (none)) else (some r6.2)) else (none)) else none) else none) else none) else none
set_option maxRecDepth 20000 in
set_option maxHeartbeats 1000000 in
theorem s_lc_17 {l : Launch} {D : va_G} {ty : Nat → ClassId} {ρ : Nat → Nat → Nat} {N0 : Nat} (S : St l ty ρ N0) {xs : Nat → Int32} {L b : Nat} (i : Int32) (σ σ9 : Sg) (h : p_lc_17 xs L i σ = some σ9) {p : Program} {e : Env} {s : State} {m : MethodId} {args : Array Value} {below : List Frame} {meth : Method} {c : Code} {Q : State → Prop} (K : Cx p l s m args meth c code 9 RL ret D ty ρ N0) (hX : va_X b L xs s s.heap) (hbl : b < s.heap.size) (hbA : ¬ N0 ≤ b) {cs ss : Nat} (hcs : cs + 20 ≤ 603072) (hss : ss + 120 ≤ 7207018) (hk : ∀ c9 s9, c9 ≤ cs + 20 → s9 ≤ ss + 120 → WA p l e room_1 s m args below meth c D ty ρ N0 9 Q 2476 [some (.ref b), some (.ref (ρ 0 0)), some (.ref (ρ 20 0)), some (.ref (ρ 30 0)), some (.ref (ρ 31 0)), some (.int i), none, none, none] [] σ9 c9 s9) : WA p l e room_1 s m args below meth c D ty ρ N0 9 Q 1374 [some (.ref b), some (.ref (ρ 0 0)), some (.ref (ρ 20 0)), some (.ref (ρ 30 0)), some (.ref (ρ 31 0)), some (.int i), none, none, none] [] σ cs ss := by
  have dq := @tat _ _ dt_law
  unfold p_lc_17 at h
  refine a_aload_n K (dq 789 rfl) rfl rfl ?_
  refine a_aload_n K (dq 790 rfl) rfl rfl ?_
  refine a_iload K (dq 791 rfl) rfl ?_
  refine a_iconst K (dq 792 rfl) (v := 1) rfl ?_
  refine a_iadd K (dq 793 rfl) ?_
  obtain ⟨c1, h⟩ := ib_some h
  refine a_sld K hX hbl hbA c1 (dq 794 rfl) ?_
  refine a_aload_n K (dq 795 rfl) rfl rfl ?_
  refine a_iload K (dq 796 rfl) rfl ?_
  refine a_iconst K (dq 797 rfl) (v := 2) rfl ?_
  refine a_iadd K (dq 798 rfl) ?_
  obtain ⟨c2, h⟩ := ib_some h
  refine a_sld K hX hbl hbA c2 (dq 799 rfl) ?_
  refine a_aload_n K (dq 800 rfl) rfl rfl ?_
  obtain ⟨r3, h3, h⟩ := bnd h
  refine a_callH K (s_L_exposed S (xs (i + 1).toNatClampNeg) (xs (i + 2).toNatClampNeg) σ r3 h3) cw_L_exposed mh_L_200 (by decide) rfl (rest := []) rfl (Nat.le_of_ble_eq_true rfl) (dq 801 rfl) (by constructor <;> (simp only [rmk, room_1]; omega)) ?_
  refine a_istore K (dq 802 rfl) (Nat.le_of_ble_eq_true rfl) (ls' := [some (.ref b), some (.ref (ρ 0 0)), some (.ref (ρ 20 0)), some (.ref (ρ 30 0)), some (.ref (ρ 31 0)), some (.int i), some (.int r3.1), none, none]) rfl ?_
  refine a_aload_n K (dq 803 rfl) rfl rfl ?_
  refine a_aload_n K (dq 804 rfl) rfl rfl ?_
  refine a_iload K (dq 805 rfl) rfl ?_
  refine a_iconst K (dq 806 rfl) (v := 1) rfl ?_
  refine a_iadd K (dq 807 rfl) ?_
  obtain ⟨c4, h⟩ := ib_some h
  refine a_sld K hX hbl hbA c4 (dq 808 rfl) ?_
  refine a_aload_n K (dq 809 rfl) rfl rfl ?_
  refine a_iload K (dq 810 rfl) rfl ?_
  refine a_iconst K (dq 811 rfl) (v := 2) rfl ?_
  refine a_iadd K (dq 812 rfl) ?_
  obtain ⟨c5, h⟩ := ib_some h
  refine a_sld K hX hbl hbA c5 (dq 813 rfl) ?_
  obtain ⟨r6, h6, h⟩ := bnd h
  refine a_callVi K (s_X7_exposed S (xs (i + 1).toNatClampNeg) (xs (i + 2).toNatClampNeg) r3.2 r6 h6) v_20 rfl rfl cw_X7_exposed ml_L_202 (by decide) rfl (rest := []) rfl (Nat.le_of_ble_eq_true rfl) (dq 814 rfl) (by constructor <;> (simp only [rmk, room_1]; omega)) ?_
  refine a_istore K (dq 815 rfl) (Nat.le_of_ble_eq_true rfl) (ls' := [some (.ref b), some (.ref (ρ 0 0)), some (.ref (ρ 20 0)), some (.ref (ρ 30 0)), some (.ref (ρ 31 0)), some (.int i), some (.int r3.1), some (.int r6.1), none]) rfl ?_
  refine a_aload_n K (dq 816 rfl) rfl rfl ?_
  obtain ⟨r7, h7, h⟩ := bnd h
  refine a_callVi K (s_X7_thrown S  r6.2 r7 h7) v_20 rfl rfl cw_X7_thrown ml_L_147 (by decide) rfl (rest := []) rfl (Nat.le_of_ble_eq_true rfl) (dq 817 rfl) (by constructor <;> (simp only [rmk, room_1]; omega)) ?_
  refine a_iload K (dq 818 rfl) rfl ?_
  refine a_icmp_eq K (tgt := 1422) (dq 819 rfl) rfl (fun c8 => ?_) (fun c8 => ?_)
  · have h := ite_t c8 h
    refine a_iload K (dq 822 rfl) rfl ?_
    refine a_if_ne K (tgt := 1439) (dq 823 rfl) rfl (fun c9 => ?_) (fun c9 => ?_)
    · have h := ite_f c9 h
      refine a_goto K (tgt := 2476) (dq 833 rfl) rfl ?_
      obtain rfl := Option.some.inj h
      refine a_le2 (ls' := [some (.ref b), some (.ref (ρ 0 0)), some (.ref (ρ 20 0)), some (.ref (ρ 30 0)), some (.ref (ρ 31 0)), some (.int i), none, none, none]) ⟨rfl, rfl, rfl, rfl, rfl, rfl, trivial⟩ ?_
      exact hk _ _ (by simp only [rmk]; omega) (by simp only [rmk]; omega)
    · have h := ite_t c9 h
      refine a_aload_n K (dq 824 rfl) rfl rfl ?_
      refine a_iconst K (dq 825 rfl) (v := 0) rfl ?_
      refine a_lald K (dq 826 rfl) ?_
      refine a_iload K (dq 827 rfl) rfl ?_
      refine a_i2l K (dq 828 rfl) ?_
      refine a_lcmp K (dq 829 rfl) ?_
      refine a_if_eq K (tgt := 1439) (dq 830 rfl) rfl (fun c10 => ?_) (fun c10 => ?_)
      · have h := ite_t c10 h
        refine a_goto K (tgt := 2476) (dq 833 rfl) rfl ?_
        obtain rfl := Option.some.inj h
        refine a_le2 (ls' := [some (.ref b), some (.ref (ρ 0 0)), some (.ref (ρ 20 0)), some (.ref (ρ 30 0)), some (.ref (ρ 31 0)), some (.int i), none, none, none]) ⟨rfl, rfl, rfl, rfl, rfl, rfl, trivial⟩ ?_
        exact hk _ _ (by simp only [rmk]; omega) (by simp only [rmk]; omega)
      · have h := ite_f c10 h
        refine a_iconst K (dq 831 rfl) (v := 0) rfl ?_
        cases h
  · have h := ite_f c8 h
    refine a_iconst K (dq 820 rfl) (v := 0) rfl ?_
    cases h
def p_lc_18 (xs : Nat → Int32) (L : Nat) (i : Int32) (σ : Sg) : Option Sg := if ib (i + 1) L then ((p_L_wouldChange (xs (i + 1).toNatClampNeg) σ).bind fun r2 => if ib (i + 1) L then ((p_X7_wouldChange (xs (i + 1).toNatClampNeg) r2.2).bind fun r4 => (p_X7_thrown  r4.2).bind fun r5 => if r5 = r2.1 then (if r2.1 = 0 then (if (lg_cmp (gL r4.2) r4.1.toInt64) = 0 then (some r4.2) else (none)) else (some r4.2)) else (none)) else none) else none
set_option maxRecDepth 20000 in
set_option maxHeartbeats 1000000 in
theorem s_lc_18 {l : Launch} {D : va_G} {ty : Nat → ClassId} {ρ : Nat → Nat → Nat} {N0 : Nat} (S : St l ty ρ N0) {xs : Nat → Int32} {L b : Nat} (i : Int32) (σ σ9 : Sg) (h : p_lc_18 xs L i σ = some σ9) {p : Program} {e : Env} {s : State} {m : MethodId} {args : Array Value} {below : List Frame} {meth : Method} {c : Code} {Q : State → Prop} (K : Cx p l s m args meth c code 9 RL ret D ty ρ N0) (hX : va_X b L xs s s.heap) (hbl : b < s.heap.size) (hbA : ¬ N0 ≤ b) {cs ss : Nat} (hcs : cs + 20 ≤ 603072) (hss : ss + 120 ≤ 7207018) (hk : ∀ c9 s9, c9 ≤ cs + 20 → s9 ≤ ss + 120 → WA p l e room_1 s m args below meth c D ty ρ N0 9 Q 2476 [some (.ref b), some (.ref (ρ 0 0)), some (.ref (ρ 20 0)), some (.ref (ρ 30 0)), some (.ref (ρ 31 0)), some (.int i), none, none, none] [] σ9 c9 s9) : WA p l e room_1 s m args below meth c D ty ρ N0 9 Q 1442 [some (.ref b), some (.ref (ρ 0 0)), some (.ref (ρ 20 0)), some (.ref (ρ 30 0)), some (.ref (ρ 31 0)), some (.int i), none, none, none] [] σ cs ss := by
  have dq := @tat _ _ dt_law
  unfold p_lc_18 at h
  refine a_aload_n K (dq 834 rfl) rfl rfl ?_
  refine a_aload_n K (dq 835 rfl) rfl rfl ?_
  refine a_iload K (dq 836 rfl) rfl ?_
  refine a_iconst K (dq 837 rfl) (v := 1) rfl ?_
  refine a_iadd K (dq 838 rfl) ?_
  obtain ⟨c1, h⟩ := ib_some h
  refine a_sld K hX hbl hbA c1 (dq 839 rfl) ?_
  refine a_aload_n K (dq 840 rfl) rfl rfl ?_
  obtain ⟨r2, h2, h⟩ := bnd h
  refine a_callH K (s_L_wouldChange S (xs (i + 1).toNatClampNeg) σ r2 h2) cw_L_wouldChange mh_L_203 (by decide) rfl (rest := []) rfl (Nat.le_of_ble_eq_true rfl) (dq 841 rfl) (by constructor <;> (simp only [rmk, room_1]; omega)) ?_
  refine a_istore K (dq 842 rfl) (Nat.le_of_ble_eq_true rfl) (ls' := [some (.ref b), some (.ref (ρ 0 0)), some (.ref (ρ 20 0)), some (.ref (ρ 30 0)), some (.ref (ρ 31 0)), some (.int i), some (.int r2.1), none, none]) rfl ?_
  refine a_aload_n K (dq 843 rfl) rfl rfl ?_
  refine a_aload_n K (dq 844 rfl) rfl rfl ?_
  refine a_iload K (dq 845 rfl) rfl ?_
  refine a_iconst K (dq 846 rfl) (v := 1) rfl ?_
  refine a_iadd K (dq 847 rfl) ?_
  obtain ⟨c3, h⟩ := ib_some h
  refine a_sld K hX hbl hbA c3 (dq 848 rfl) ?_
  obtain ⟨r4, h4, h⟩ := bnd h
  refine a_callVi K (s_X7_wouldChange S (xs (i + 1).toNatClampNeg) r2.2 r4 h4) v_20 rfl rfl cw_X7_wouldChange ml_L_205 (by decide) rfl (rest := []) rfl (Nat.le_of_ble_eq_true rfl) (dq 849 rfl) (by constructor <;> (simp only [rmk, room_1]; omega)) ?_
  refine a_istore K (dq 850 rfl) (Nat.le_of_ble_eq_true rfl) (ls' := [some (.ref b), some (.ref (ρ 0 0)), some (.ref (ρ 20 0)), some (.ref (ρ 30 0)), some (.ref (ρ 31 0)), some (.int i), some (.int r2.1), some (.int r4.1), none]) rfl ?_
  refine a_aload_n K (dq 851 rfl) rfl rfl ?_
  obtain ⟨r5, h5, h⟩ := bnd h
  refine a_callVi K (s_X7_thrown S  r4.2 r5 h5) v_20 rfl rfl cw_X7_thrown ml_L_147 (by decide) rfl (rest := []) rfl (Nat.le_of_ble_eq_true rfl) (dq 852 rfl) (by constructor <;> (simp only [rmk, room_1]; omega)) ?_
  refine a_iload K (dq 853 rfl) rfl ?_
  refine a_icmp_eq K (tgt := 1478) (dq 854 rfl) rfl (fun c6 => ?_) (fun c6 => ?_)
  · have h := ite_t c6 h
    refine a_iload K (dq 857 rfl) rfl ?_
    refine a_if_ne K (tgt := 1495) (dq 858 rfl) rfl (fun c7 => ?_) (fun c7 => ?_)
    · have h := ite_f c7 h
      refine a_goto K (tgt := 2476) (dq 868 rfl) rfl ?_
      obtain rfl := Option.some.inj h
      refine a_le2 (ls' := [some (.ref b), some (.ref (ρ 0 0)), some (.ref (ρ 20 0)), some (.ref (ρ 30 0)), some (.ref (ρ 31 0)), some (.int i), none, none, none]) ⟨rfl, rfl, rfl, rfl, rfl, rfl, trivial⟩ ?_
      exact hk _ _ (by simp only [rmk]; omega) (by simp only [rmk]; omega)
    · have h := ite_t c7 h
      refine a_aload_n K (dq 859 rfl) rfl rfl ?_
      refine a_iconst K (dq 860 rfl) (v := 0) rfl ?_
      refine a_lald K (dq 861 rfl) ?_
      refine a_iload K (dq 862 rfl) rfl ?_
      refine a_i2l K (dq 863 rfl) ?_
      refine a_lcmp K (dq 864 rfl) ?_
      refine a_if_eq K (tgt := 1495) (dq 865 rfl) rfl (fun c8 => ?_) (fun c8 => ?_)
      · have h := ite_t c8 h
        refine a_goto K (tgt := 2476) (dq 868 rfl) rfl ?_
        obtain rfl := Option.some.inj h
        refine a_le2 (ls' := [some (.ref b), some (.ref (ρ 0 0)), some (.ref (ρ 20 0)), some (.ref (ρ 30 0)), some (.ref (ρ 31 0)), some (.int i), none, none, none]) ⟨rfl, rfl, rfl, rfl, rfl, rfl, trivial⟩ ?_
        exact hk _ _ (by simp only [rmk]; omega) (by simp only [rmk]; omega)
      · have h := ite_f c8 h
        refine a_iconst K (dq 866 rfl) (v := 0) rfl ?_
        cases h
  · have h := ite_f c6 h
    refine a_iconst K (dq 855 rfl) (v := 0) rfl ?_
    cases h
def p_lc_19 (xs : Nat → Int32) (L : Nat) (i : Int32) (σ : Sg) : Option Sg := (p_X6_trees  σ).bind fun r1 => (p_X7_trees  σ).bind fun r2 => if r1 = r2.1 then (some r2.2) else (none)
set_option maxRecDepth 20000 in
set_option maxHeartbeats 1000000 in
theorem s_lc_19 {l : Launch} {D : va_G} {ty : Nat → ClassId} {ρ : Nat → Nat → Nat} {N0 : Nat} (S : St l ty ρ N0) {xs : Nat → Int32} {L b : Nat} (i : Int32) (σ σ9 : Sg) (h : p_lc_19 xs L i σ = some σ9) {p : Program} {e : Env} {s : State} {m : MethodId} {args : Array Value} {below : List Frame} {meth : Method} {c : Code} {Q : State → Prop} (K : Cx p l s m args meth c code 9 RL ret D ty ρ N0) (hX : va_X b L xs s s.heap) (hbl : b < s.heap.size) (hbA : ¬ N0 ≤ b) {cs ss : Nat} (hcs : cs + 20 ≤ 603072) (hss : ss + 120 ≤ 7207018) (hk : ∀ c9 s9, c9 ≤ cs + 20 → s9 ≤ ss + 120 → WA p l e room_1 s m args below meth c D ty ρ N0 9 Q 2476 [some (.ref b), some (.ref (ρ 0 0)), some (.ref (ρ 20 0)), some (.ref (ρ 30 0)), some (.ref (ρ 31 0)), some (.int i), none, none, none] [] σ9 c9 s9) : WA p l e room_1 s m args below meth c D ty ρ N0 9 Q 1498 [some (.ref b), some (.ref (ρ 0 0)), some (.ref (ρ 20 0)), some (.ref (ρ 30 0)), some (.ref (ρ 31 0)), some (.int i), none, none, none] [] σ cs ss := by
  have dq := @tat _ _ dt_law
  unfold p_lc_19 at h
  refine a_aload_n K (dq 869 rfl) rfl rfl ?_
  obtain ⟨r1, h1, h⟩ := bnd h
  refine a_callVi K (s_X6_trees S  σ r1 h1) v_0 rfl rfl cw_X6_trees ml_L_206 (by decide) rfl (rest := []) rfl (Nat.le_of_ble_eq_true rfl) (dq 870 rfl) (by constructor <;> (simp only [rmk, room_1]; omega)) ?_
  refine a_aload_n K (dq 871 rfl) rfl rfl ?_
  obtain ⟨r2, h2, h⟩ := bnd h
  refine a_callVi K (s_X7_trees S  σ r2 h2) v_20 rfl rfl cw_X7_trees ml_L_209 (by decide) rfl (rest := [.int r1]) rfl (Nat.le_of_ble_eq_true rfl) (dq 872 rfl) (by constructor <;> (simp only [rmk, room_1]; omega)) ?_
  refine a_icmp_eq K (tgt := 2476) (dq 873 rfl) rfl (fun c3 => ?_) (fun c3 => ?_)
  · have h := ite_t c3 h
    obtain rfl := Option.some.inj h
    refine a_le2 (ls' := [some (.ref b), some (.ref (ρ 0 0)), some (.ref (ρ 20 0)), some (.ref (ρ 30 0)), some (.ref (ρ 31 0)), some (.int i), none, none, none]) ⟨rfl, rfl, rfl, rfl, rfl, rfl, trivial⟩ ?_
    exact hk _ _ (by simp only [rmk]; omega) (by simp only [rmk]; omega)
  · have h := ite_f c3 h
    refine a_iconst K (dq 874 rfl) (v := 0) rfl ?_
    cases h
def p_lc_20 (xs : Nat → Int32) (L : Nat) (i : Int32) (σ : Sg) : Option Sg := if ib (i + 1) L then ((p_L_size (xs (i + 1).toNatClampNeg) σ).bind fun r2 => if ib (i + 1) L then ((p_X7_size (xs (i + 1).toNatClampNeg) r2.2).bind fun r4 => (p_X7_thrown  r4.2).bind fun r5 => if r5 = r2.1 then (if r2.1 = 0 then (if (lg_cmp (gL r4.2) r4.1.toInt64) = 0 then (some r4.2) else (none)) else (some r4.2)) else (none)) else none) else none
set_option maxRecDepth 20000 in
set_option maxHeartbeats 1000000 in
theorem s_lc_20 {l : Launch} {D : va_G} {ty : Nat → ClassId} {ρ : Nat → Nat → Nat} {N0 : Nat} (S : St l ty ρ N0) {xs : Nat → Int32} {L b : Nat} (i : Int32) (σ σ9 : Sg) (h : p_lc_20 xs L i σ = some σ9) {p : Program} {e : Env} {s : State} {m : MethodId} {args : Array Value} {below : List Frame} {meth : Method} {c : Code} {Q : State → Prop} (K : Cx p l s m args meth c code 9 RL ret D ty ρ N0) (hX : va_X b L xs s s.heap) (hbl : b < s.heap.size) (hbA : ¬ N0 ≤ b) {cs ss : Nat} (hcs : cs + 20 ≤ 603072) (hss : ss + 120 ≤ 7207018) (hk : ∀ c9 s9, c9 ≤ cs + 20 → s9 ≤ ss + 120 → WA p l e room_1 s m args below meth c D ty ρ N0 9 Q 2476 [some (.ref b), some (.ref (ρ 0 0)), some (.ref (ρ 20 0)), some (.ref (ρ 30 0)), some (.ref (ρ 31 0)), some (.int i), none, none, none] [] σ9 c9 s9) : WA p l e room_1 s m args below meth c D ty ρ N0 9 Q 1511 [some (.ref b), some (.ref (ρ 0 0)), some (.ref (ρ 20 0)), some (.ref (ρ 30 0)), some (.ref (ρ 31 0)), some (.int i), none, none, none] [] σ cs ss := by
  have dq := @tat _ _ dt_law
  unfold p_lc_20 at h
  refine a_aload_n K (dq 876 rfl) rfl rfl ?_
  refine a_aload_n K (dq 877 rfl) rfl rfl ?_
  refine a_iload K (dq 878 rfl) rfl ?_
  refine a_iconst K (dq 879 rfl) (v := 1) rfl ?_
  refine a_iadd K (dq 880 rfl) ?_
  obtain ⟨c1, h⟩ := ib_some h
  refine a_sld K hX hbl hbA c1 (dq 881 rfl) ?_
  refine a_aload_n K (dq 882 rfl) rfl rfl ?_
  obtain ⟨r2, h2, h⟩ := bnd h
  refine a_callH K (s_L_size S (xs (i + 1).toNatClampNeg) σ r2 h2) cw_L_size mh_L_210 (by decide) rfl (rest := []) rfl (Nat.le_of_ble_eq_true rfl) (dq 883 rfl) (by constructor <;> (simp only [rmk, room_1]; omega)) ?_
  refine a_istore K (dq 884 rfl) (Nat.le_of_ble_eq_true rfl) (ls' := [some (.ref b), some (.ref (ρ 0 0)), some (.ref (ρ 20 0)), some (.ref (ρ 30 0)), some (.ref (ρ 31 0)), some (.int i), some (.int r2.1), none, none]) rfl ?_
  refine a_aload_n K (dq 885 rfl) rfl rfl ?_
  refine a_aload_n K (dq 886 rfl) rfl rfl ?_
  refine a_iload K (dq 887 rfl) rfl ?_
  refine a_iconst K (dq 888 rfl) (v := 1) rfl ?_
  refine a_iadd K (dq 889 rfl) ?_
  obtain ⟨c3, h⟩ := ib_some h
  refine a_sld K hX hbl hbA c3 (dq 890 rfl) ?_
  obtain ⟨r4, h4, h⟩ := bnd h
  refine a_callVi K (s_X7_size S (xs (i + 1).toNatClampNeg) r2.2 r4 h4) v_20 rfl rfl cw_X7_size ml_L_212 (by decide) rfl (rest := []) rfl (Nat.le_of_ble_eq_true rfl) (dq 891 rfl) (by constructor <;> (simp only [rmk, room_1]; omega)) ?_
  refine a_istore K (dq 892 rfl) (Nat.le_of_ble_eq_true rfl) (ls' := [some (.ref b), some (.ref (ρ 0 0)), some (.ref (ρ 20 0)), some (.ref (ρ 30 0)), some (.ref (ρ 31 0)), some (.int i), some (.int r2.1), some (.int r4.1), none]) rfl ?_
  refine a_aload_n K (dq 893 rfl) rfl rfl ?_
  obtain ⟨r5, h5, h⟩ := bnd h
  refine a_callVi K (s_X7_thrown S  r4.2 r5 h5) v_20 rfl rfl cw_X7_thrown ml_L_147 (by decide) rfl (rest := []) rfl (Nat.le_of_ble_eq_true rfl) (dq 894 rfl) (by constructor <;> (simp only [rmk, room_1]; omega)) ?_
  refine a_iload K (dq 895 rfl) rfl ?_
  refine a_icmp_eq K (tgt := 1547) (dq 896 rfl) rfl (fun c6 => ?_) (fun c6 => ?_)
  · have h := ite_t c6 h
    refine a_iload K (dq 899 rfl) rfl ?_
    refine a_if_ne K (tgt := 1564) (dq 900 rfl) rfl (fun c7 => ?_) (fun c7 => ?_)
    · have h := ite_f c7 h
      refine a_goto K (tgt := 2476) (dq 910 rfl) rfl ?_
      obtain rfl := Option.some.inj h
      refine a_le2 (ls' := [some (.ref b), some (.ref (ρ 0 0)), some (.ref (ρ 20 0)), some (.ref (ρ 30 0)), some (.ref (ρ 31 0)), some (.int i), none, none, none]) ⟨rfl, rfl, rfl, rfl, rfl, rfl, trivial⟩ ?_
      exact hk _ _ (by simp only [rmk]; omega) (by simp only [rmk]; omega)
    · have h := ite_t c7 h
      refine a_aload_n K (dq 901 rfl) rfl rfl ?_
      refine a_iconst K (dq 902 rfl) (v := 0) rfl ?_
      refine a_lald K (dq 903 rfl) ?_
      refine a_iload K (dq 904 rfl) rfl ?_
      refine a_i2l K (dq 905 rfl) ?_
      refine a_lcmp K (dq 906 rfl) ?_
      refine a_if_eq K (tgt := 1564) (dq 907 rfl) rfl (fun c8 => ?_) (fun c8 => ?_)
      · have h := ite_t c8 h
        refine a_goto K (tgt := 2476) (dq 910 rfl) rfl ?_
        obtain rfl := Option.some.inj h
        refine a_le2 (ls' := [some (.ref b), some (.ref (ρ 0 0)), some (.ref (ρ 20 0)), some (.ref (ρ 30 0)), some (.ref (ρ 31 0)), some (.int i), none, none, none]) ⟨rfl, rfl, rfl, rfl, rfl, rfl, trivial⟩ ?_
        exact hk _ _ (by simp only [rmk]; omega) (by simp only [rmk]; omega)
      · have h := ite_f c8 h
        refine a_iconst K (dq 908 rfl) (v := 0) rfl ?_
        cases h
  · have h := ite_f c6 h
    refine a_iconst K (dq 897 rfl) (v := 0) rfl ?_
    cases h
def p_lc_21 (xs : Nat → Int32) (L : Nat) (i : Int32) (σ : Sg) : Option Sg := if ib (i + 1) L then ((p_L_farthest (xs (i + 1).toNatClampNeg) σ).bind fun r2 => if ib (i + 1) L then ((p_X7_farthest (xs (i + 1).toNatClampNeg) r2.2).bind fun r4 => (p_X7_thrown  r4.2).bind fun r5 => if r5 = r2.1 then (if r2.1 = 0 then (if (lg_cmp (gL r4.2) r4.1.toInt64) = 0 then (some r4.2) else (none)) else (some r4.2)) else (none)) else none) else none
set_option maxRecDepth 20000 in
set_option maxHeartbeats 1000000 in
theorem s_lc_21 {l : Launch} {D : va_G} {ty : Nat → ClassId} {ρ : Nat → Nat → Nat} {N0 : Nat} (S : St l ty ρ N0) {xs : Nat → Int32} {L b : Nat} (i : Int32) (σ σ9 : Sg) (h : p_lc_21 xs L i σ = some σ9) {p : Program} {e : Env} {s : State} {m : MethodId} {args : Array Value} {below : List Frame} {meth : Method} {c : Code} {Q : State → Prop} (K : Cx p l s m args meth c code 9 RL ret D ty ρ N0) (hX : va_X b L xs s s.heap) (hbl : b < s.heap.size) (hbA : ¬ N0 ≤ b) {cs ss : Nat} (hcs : cs + 20 ≤ 603072) (hss : ss + 120 ≤ 7207018) (hk : ∀ c9 s9, c9 ≤ cs + 20 → s9 ≤ ss + 120 → WA p l e room_1 s m args below meth c D ty ρ N0 9 Q 2476 [some (.ref b), some (.ref (ρ 0 0)), some (.ref (ρ 20 0)), some (.ref (ρ 30 0)), some (.ref (ρ 31 0)), some (.int i), none, none, none] [] σ9 c9 s9) : WA p l e room_1 s m args below meth c D ty ρ N0 9 Q 1567 [some (.ref b), some (.ref (ρ 0 0)), some (.ref (ρ 20 0)), some (.ref (ρ 30 0)), some (.ref (ρ 31 0)), some (.int i), none, none, none] [] σ cs ss := by
  have dq := @tat _ _ dt_law
  unfold p_lc_21 at h
  refine a_aload_n K (dq 911 rfl) rfl rfl ?_
  refine a_aload_n K (dq 912 rfl) rfl rfl ?_
  refine a_iload K (dq 913 rfl) rfl ?_
  refine a_iconst K (dq 914 rfl) (v := 1) rfl ?_
  refine a_iadd K (dq 915 rfl) ?_
  obtain ⟨c1, h⟩ := ib_some h
  refine a_sld K hX hbl hbA c1 (dq 916 rfl) ?_
  refine a_aload_n K (dq 917 rfl) rfl rfl ?_
  obtain ⟨r2, h2, h⟩ := bnd h
  refine a_callH K (s_L_farthest S (xs (i + 1).toNatClampNeg) σ r2 h2) cw_L_farthest mh_L_213 (by decide) rfl (rest := []) rfl (Nat.le_of_ble_eq_true rfl) (dq 918 rfl) (by constructor <;> (simp only [rmk, room_1]; omega)) ?_
  refine a_istore K (dq 919 rfl) (Nat.le_of_ble_eq_true rfl) (ls' := [some (.ref b), some (.ref (ρ 0 0)), some (.ref (ρ 20 0)), some (.ref (ρ 30 0)), some (.ref (ρ 31 0)), some (.int i), some (.int r2.1), none, none]) rfl ?_
  refine a_aload_n K (dq 920 rfl) rfl rfl ?_
  refine a_aload_n K (dq 921 rfl) rfl rfl ?_
  refine a_iload K (dq 922 rfl) rfl ?_
  refine a_iconst K (dq 923 rfl) (v := 1) rfl ?_
  refine a_iadd K (dq 924 rfl) ?_
  obtain ⟨c3, h⟩ := ib_some h
  refine a_sld K hX hbl hbA c3 (dq 925 rfl) ?_
  obtain ⟨r4, h4, h⟩ := bnd h
  refine a_callVi K (s_X7_farthest S (xs (i + 1).toNatClampNeg) r2.2 r4 h4) v_20 rfl rfl cw_X7_farthest ml_L_215 (by decide) rfl (rest := []) rfl (Nat.le_of_ble_eq_true rfl) (dq 926 rfl) (by constructor <;> (simp only [rmk, room_1]; omega)) ?_
  refine a_istore K (dq 927 rfl) (Nat.le_of_ble_eq_true rfl) (ls' := [some (.ref b), some (.ref (ρ 0 0)), some (.ref (ρ 20 0)), some (.ref (ρ 30 0)), some (.ref (ρ 31 0)), some (.int i), some (.int r2.1), some (.int r4.1), none]) rfl ?_
  refine a_aload_n K (dq 928 rfl) rfl rfl ?_
  obtain ⟨r5, h5, h⟩ := bnd h
  refine a_callVi K (s_X7_thrown S  r4.2 r5 h5) v_20 rfl rfl cw_X7_thrown ml_L_147 (by decide) rfl (rest := []) rfl (Nat.le_of_ble_eq_true rfl) (dq 929 rfl) (by constructor <;> (simp only [rmk, room_1]; omega)) ?_
  refine a_iload K (dq 930 rfl) rfl ?_
  refine a_icmp_eq K (tgt := 1603) (dq 931 rfl) rfl (fun c6 => ?_) (fun c6 => ?_)
  · have h := ite_t c6 h
    refine a_iload K (dq 934 rfl) rfl ?_
    refine a_if_ne K (tgt := 1620) (dq 935 rfl) rfl (fun c7 => ?_) (fun c7 => ?_)
    · have h := ite_f c7 h
      refine a_goto K (tgt := 2476) (dq 945 rfl) rfl ?_
      obtain rfl := Option.some.inj h
      refine a_le2 (ls' := [some (.ref b), some (.ref (ρ 0 0)), some (.ref (ρ 20 0)), some (.ref (ρ 30 0)), some (.ref (ρ 31 0)), some (.int i), none, none, none]) ⟨rfl, rfl, rfl, rfl, rfl, rfl, trivial⟩ ?_
      exact hk _ _ (by simp only [rmk]; omega) (by simp only [rmk]; omega)
    · have h := ite_t c7 h
      refine a_aload_n K (dq 936 rfl) rfl rfl ?_
      refine a_iconst K (dq 937 rfl) (v := 0) rfl ?_
      refine a_lald K (dq 938 rfl) ?_
      refine a_iload K (dq 939 rfl) rfl ?_
      refine a_i2l K (dq 940 rfl) ?_
      refine a_lcmp K (dq 941 rfl) ?_
      refine a_if_eq K (tgt := 1620) (dq 942 rfl) rfl (fun c8 => ?_) (fun c8 => ?_)
      · have h := ite_t c8 h
        refine a_goto K (tgt := 2476) (dq 945 rfl) rfl ?_
        obtain rfl := Option.some.inj h
        refine a_le2 (ls' := [some (.ref b), some (.ref (ρ 0 0)), some (.ref (ρ 20 0)), some (.ref (ρ 30 0)), some (.ref (ρ 31 0)), some (.int i), none, none, none]) ⟨rfl, rfl, rfl, rfl, rfl, rfl, trivial⟩ ?_
        exact hk _ _ (by simp only [rmk]; omega) (by simp only [rmk]; omega)
      · have h := ite_f c8 h
        refine a_iconst K (dq 943 rfl) (v := 0) rfl ?_
        cases h
  · have h := ite_f c6 h
    refine a_iconst K (dq 932 rfl) (v := 0) rfl ?_
    cases h
def p_lc_22 (xs : Nat → Int32) (L : Nat) (i : Int32) (σ : Sg) : Option Sg := if ib (i + 1) L then ((p_L_longest (xs (i + 1).toNatClampNeg) σ).bind fun r2 => if ib (i + 1) L then ((p_X7_longest (xs (i + 1).toNatClampNeg) r2.2).bind fun r4 => (p_X7_thrown  r4.2).bind fun r5 => if r5 = r2.1 then (if r2.1 = 0 then (if (lg_cmp (gL r4.2) r4.1.toInt64) = 0 then (some r4.2) else (none)) else (some r4.2)) else (none)) else none) else none
set_option maxRecDepth 20000 in
set_option maxHeartbeats 1000000 in
theorem s_lc_22 {l : Launch} {D : va_G} {ty : Nat → ClassId} {ρ : Nat → Nat → Nat} {N0 : Nat} (S : St l ty ρ N0) {xs : Nat → Int32} {L b : Nat} (i : Int32) (σ σ9 : Sg) (h : p_lc_22 xs L i σ = some σ9) {p : Program} {e : Env} {s : State} {m : MethodId} {args : Array Value} {below : List Frame} {meth : Method} {c : Code} {Q : State → Prop} (K : Cx p l s m args meth c code 9 RL ret D ty ρ N0) (hX : va_X b L xs s s.heap) (hbl : b < s.heap.size) (hbA : ¬ N0 ≤ b) {cs ss : Nat} (hcs : cs + 20 ≤ 603072) (hss : ss + 120 ≤ 7207018) (hk : ∀ c9 s9, c9 ≤ cs + 20 → s9 ≤ ss + 120 → WA p l e room_1 s m args below meth c D ty ρ N0 9 Q 2476 [some (.ref b), some (.ref (ρ 0 0)), some (.ref (ρ 20 0)), some (.ref (ρ 30 0)), some (.ref (ρ 31 0)), some (.int i), none, none, none] [] σ9 c9 s9) : WA p l e room_1 s m args below meth c D ty ρ N0 9 Q 1623 [some (.ref b), some (.ref (ρ 0 0)), some (.ref (ρ 20 0)), some (.ref (ρ 30 0)), some (.ref (ρ 31 0)), some (.int i), none, none, none] [] σ cs ss := by
  have dq := @tat _ _ dt_law
  unfold p_lc_22 at h
  refine a_aload_n K (dq 946 rfl) rfl rfl ?_
  refine a_aload_n K (dq 947 rfl) rfl rfl ?_
  refine a_iload K (dq 948 rfl) rfl ?_
  refine a_iconst K (dq 949 rfl) (v := 1) rfl ?_
  refine a_iadd K (dq 950 rfl) ?_
  obtain ⟨c1, h⟩ := ib_some h
  refine a_sld K hX hbl hbA c1 (dq 951 rfl) ?_
  refine a_aload_n K (dq 952 rfl) rfl rfl ?_
  obtain ⟨r2, h2, h⟩ := bnd h
  refine a_callH K (s_L_longest S (xs (i + 1).toNatClampNeg) σ r2 h2) cw_L_longest mh_L_216 (by decide) rfl (rest := []) rfl (Nat.le_of_ble_eq_true rfl) (dq 953 rfl) (by constructor <;> (simp only [rmk, room_1]; omega)) ?_
  refine a_istore K (dq 954 rfl) (Nat.le_of_ble_eq_true rfl) (ls' := [some (.ref b), some (.ref (ρ 0 0)), some (.ref (ρ 20 0)), some (.ref (ρ 30 0)), some (.ref (ρ 31 0)), some (.int i), some (.int r2.1), none, none]) rfl ?_
  refine a_aload_n K (dq 955 rfl) rfl rfl ?_
  refine a_aload_n K (dq 956 rfl) rfl rfl ?_
  refine a_iload K (dq 957 rfl) rfl ?_
  refine a_iconst K (dq 958 rfl) (v := 1) rfl ?_
  refine a_iadd K (dq 959 rfl) ?_
  obtain ⟨c3, h⟩ := ib_some h
  refine a_sld K hX hbl hbA c3 (dq 960 rfl) ?_
  obtain ⟨r4, h4, h⟩ := bnd h
  refine a_callVi K (s_X7_longest S (xs (i + 1).toNatClampNeg) r2.2 r4 h4) v_20 rfl rfl cw_X7_longest ml_L_218 (by decide) rfl (rest := []) rfl (Nat.le_of_ble_eq_true rfl) (dq 961 rfl) (by constructor <;> (simp only [rmk, room_1]; omega)) ?_
  refine a_istore K (dq 962 rfl) (Nat.le_of_ble_eq_true rfl) (ls' := [some (.ref b), some (.ref (ρ 0 0)), some (.ref (ρ 20 0)), some (.ref (ρ 30 0)), some (.ref (ρ 31 0)), some (.int i), some (.int r2.1), some (.int r4.1), none]) rfl ?_
  refine a_aload_n K (dq 963 rfl) rfl rfl ?_
  obtain ⟨r5, h5, h⟩ := bnd h
  refine a_callVi K (s_X7_thrown S  r4.2 r5 h5) v_20 rfl rfl cw_X7_thrown ml_L_147 (by decide) rfl (rest := []) rfl (Nat.le_of_ble_eq_true rfl) (dq 964 rfl) (by constructor <;> (simp only [rmk, room_1]; omega)) ?_
  refine a_iload K (dq 965 rfl) rfl ?_
  refine a_icmp_eq K (tgt := 1659) (dq 966 rfl) rfl (fun c6 => ?_) (fun c6 => ?_)
  · have h := ite_t c6 h
    refine a_iload K (dq 969 rfl) rfl ?_
    refine a_if_ne K (tgt := 1676) (dq 970 rfl) rfl (fun c7 => ?_) (fun c7 => ?_)
    · have h := ite_f c7 h
      refine a_goto K (tgt := 2476) (dq 980 rfl) rfl ?_
      obtain rfl := Option.some.inj h
      refine a_le2 (ls' := [some (.ref b), some (.ref (ρ 0 0)), some (.ref (ρ 20 0)), some (.ref (ρ 30 0)), some (.ref (ρ 31 0)), some (.int i), none, none, none]) ⟨rfl, rfl, rfl, rfl, rfl, rfl, trivial⟩ ?_
      exact hk _ _ (by simp only [rmk]; omega) (by simp only [rmk]; omega)
    · have h := ite_t c7 h
      refine a_aload_n K (dq 971 rfl) rfl rfl ?_
      refine a_iconst K (dq 972 rfl) (v := 0) rfl ?_
      refine a_lald K (dq 973 rfl) ?_
      refine a_iload K (dq 974 rfl) rfl ?_
      refine a_i2l K (dq 975 rfl) ?_
      refine a_lcmp K (dq 976 rfl) ?_
      refine a_if_eq K (tgt := 1676) (dq 977 rfl) rfl (fun c8 => ?_) (fun c8 => ?_)
      · have h := ite_t c8 h
        refine a_goto K (tgt := 2476) (dq 980 rfl) rfl ?_
        obtain rfl := Option.some.inj h
        refine a_le2 (ls' := [some (.ref b), some (.ref (ρ 0 0)), some (.ref (ρ 20 0)), some (.ref (ρ 30 0)), some (.ref (ρ 31 0)), some (.int i), none, none, none]) ⟨rfl, rfl, rfl, rfl, rfl, rfl, trivial⟩ ?_
        exact hk _ _ (by simp only [rmk]; omega) (by simp only [rmk]; omega)
      · have h := ite_f c8 h
        refine a_iconst K (dq 978 rfl) (v := 0) rfl ?_
        cases h
  · have h := ite_f c6 h
    refine a_iconst K (dq 967 rfl) (v := 0) rfl ?_
    cases h
def p_lc_23 (xs : Nat → Int32) (L : Nat) (i : Int32) (σ : Sg) : Option Sg := if ib (i + 1) L then (if ib (i + 2) L then ((p_L_wouldSplit (xs (i + 1).toNatClampNeg) (xs (i + 2).toNatClampNeg) σ).bind fun r3 => if ib (i + 1) L then (if ib (i + 2) L then ((p_X7_wouldSplit (xs (i + 1).toNatClampNeg) (xs (i + 2).toNatClampNeg) r3.2).bind fun r6 => (p_X7_thrown  r6.2).bind fun r7 => if r7 = r3.1 then (if r3.1 = 0 then (if (lg_cmp (gL r6.2) r6.1.toInt64) = 0 then (some r6.2) else (none)) else (some r6.2)) else (none)) else none) else none) else none) else none
set_option maxRecDepth 20000 in
set_option maxHeartbeats 1000000 in
theorem s_lc_23 {l : Launch} {D : va_G} {ty : Nat → ClassId} {ρ : Nat → Nat → Nat} {N0 : Nat} (S : St l ty ρ N0) {xs : Nat → Int32} {L b : Nat} (i : Int32) (σ σ9 : Sg) (h : p_lc_23 xs L i σ = some σ9) {p : Program} {e : Env} {s : State} {m : MethodId} {args : Array Value} {below : List Frame} {meth : Method} {c : Code} {Q : State → Prop} (K : Cx p l s m args meth c code 9 RL ret D ty ρ N0) (hX : va_X b L xs s s.heap) (hbl : b < s.heap.size) (hbA : ¬ N0 ≤ b) {cs ss : Nat} (hcs : cs + 20 ≤ 603072) (hss : ss + 120 ≤ 7207018) (hk : ∀ c9 s9, c9 ≤ cs + 20 → s9 ≤ ss + 120 → WA p l e room_1 s m args below meth c D ty ρ N0 9 Q 2476 [some (.ref b), some (.ref (ρ 0 0)), some (.ref (ρ 20 0)), some (.ref (ρ 30 0)), some (.ref (ρ 31 0)), some (.int i), none, none, none] [] σ9 c9 s9) : WA p l e room_1 s m args below meth c D ty ρ N0 9 Q 1679 [some (.ref b), some (.ref (ρ 0 0)), some (.ref (ρ 20 0)), some (.ref (ρ 30 0)), some (.ref (ρ 31 0)), some (.int i), none, none, none] [] σ cs ss := by
  have dq := @tat _ _ dt_law
  unfold p_lc_23 at h
  refine a_aload_n K (dq 981 rfl) rfl rfl ?_
  refine a_aload_n K (dq 982 rfl) rfl rfl ?_
  refine a_iload K (dq 983 rfl) rfl ?_
  refine a_iconst K (dq 984 rfl) (v := 1) rfl ?_
  refine a_iadd K (dq 985 rfl) ?_
  obtain ⟨c1, h⟩ := ib_some h
  refine a_sld K hX hbl hbA c1 (dq 986 rfl) ?_
  refine a_aload_n K (dq 987 rfl) rfl rfl ?_
  refine a_iload K (dq 988 rfl) rfl ?_
  refine a_iconst K (dq 989 rfl) (v := 2) rfl ?_
  refine a_iadd K (dq 990 rfl) ?_
  obtain ⟨c2, h⟩ := ib_some h
  refine a_sld K hX hbl hbA c2 (dq 991 rfl) ?_
  refine a_aload_n K (dq 992 rfl) rfl rfl ?_
  obtain ⟨r3, h3, h⟩ := bnd h
  refine a_callH K (s_L_wouldSplit S (xs (i + 1).toNatClampNeg) (xs (i + 2).toNatClampNeg) σ r3 h3) cw_L_wouldSplit mh_L_219 (by decide) rfl (rest := []) rfl (Nat.le_of_ble_eq_true rfl) (dq 993 rfl) (by constructor <;> (simp only [rmk, room_1]; omega)) ?_
  refine a_istore K (dq 994 rfl) (Nat.le_of_ble_eq_true rfl) (ls' := [some (.ref b), some (.ref (ρ 0 0)), some (.ref (ρ 20 0)), some (.ref (ρ 30 0)), some (.ref (ρ 31 0)), some (.int i), some (.int r3.1), none, none]) rfl ?_
  refine a_aload_n K (dq 995 rfl) rfl rfl ?_
  refine a_aload_n K (dq 996 rfl) rfl rfl ?_
  refine a_iload K (dq 997 rfl) rfl ?_
  refine a_iconst K (dq 998 rfl) (v := 1) rfl ?_
  refine a_iadd K (dq 999 rfl) ?_
  obtain ⟨c4, h⟩ := ib_some h
  refine a_sld K hX hbl hbA c4 (dq 1000 rfl) ?_
  refine a_aload_n K (dq 1001 rfl) rfl rfl ?_
  refine a_iload K (dq 1002 rfl) rfl ?_
  refine a_iconst K (dq 1003 rfl) (v := 2) rfl ?_
  refine a_iadd K (dq 1004 rfl) ?_
  obtain ⟨c5, h⟩ := ib_some h
  refine a_sld K hX hbl hbA c5 (dq 1005 rfl) ?_
  obtain ⟨r6, h6, h⟩ := bnd h
  refine a_callVi K (s_X7_wouldSplit S (xs (i + 1).toNatClampNeg) (xs (i + 2).toNatClampNeg) r3.2 r6 h6) v_20 rfl rfl cw_X7_wouldSplit ml_L_221 (by decide) rfl (rest := []) rfl (Nat.le_of_ble_eq_true rfl) (dq 1006 rfl) (by constructor <;> (simp only [rmk, room_1]; omega)) ?_
  refine a_istore K (dq 1007 rfl) (Nat.le_of_ble_eq_true rfl) (ls' := [some (.ref b), some (.ref (ρ 0 0)), some (.ref (ρ 20 0)), some (.ref (ρ 30 0)), some (.ref (ρ 31 0)), some (.int i), some (.int r3.1), some (.int r6.1), none]) rfl ?_
  refine a_aload_n K (dq 1008 rfl) rfl rfl ?_
  obtain ⟨r7, h7, h⟩ := bnd h
  refine a_callVi K (s_X7_thrown S  r6.2 r7 h7) v_20 rfl rfl cw_X7_thrown ml_L_147 (by decide) rfl (rest := []) rfl (Nat.le_of_ble_eq_true rfl) (dq 1009 rfl) (by constructor <;> (simp only [rmk, room_1]; omega)) ?_
  refine a_iload K (dq 1010 rfl) rfl ?_
  refine a_icmp_eq K (tgt := 1727) (dq 1011 rfl) rfl (fun c8 => ?_) (fun c8 => ?_)
  · have h := ite_t c8 h
    refine a_iload K (dq 1014 rfl) rfl ?_
    refine a_if_ne K (tgt := 1744) (dq 1015 rfl) rfl (fun c9 => ?_) (fun c9 => ?_)
    · have h := ite_f c9 h
      refine a_goto K (tgt := 2476) (dq 1025 rfl) rfl ?_
      obtain rfl := Option.some.inj h
      refine a_le2 (ls' := [some (.ref b), some (.ref (ρ 0 0)), some (.ref (ρ 20 0)), some (.ref (ρ 30 0)), some (.ref (ρ 31 0)), some (.int i), none, none, none]) ⟨rfl, rfl, rfl, rfl, rfl, rfl, trivial⟩ ?_
      exact hk _ _ (by simp only [rmk]; omega) (by simp only [rmk]; omega)
    · have h := ite_t c9 h
      refine a_aload_n K (dq 1016 rfl) rfl rfl ?_
      refine a_iconst K (dq 1017 rfl) (v := 0) rfl ?_
      refine a_lald K (dq 1018 rfl) ?_
      refine a_iload K (dq 1019 rfl) rfl ?_
      refine a_i2l K (dq 1020 rfl) ?_
      refine a_lcmp K (dq 1021 rfl) ?_
      refine a_if_eq K (tgt := 1744) (dq 1022 rfl) rfl (fun c10 => ?_) (fun c10 => ?_)
      · have h := ite_t c10 h
        refine a_goto K (tgt := 2476) (dq 1025 rfl) rfl ?_
        obtain rfl := Option.some.inj h
        refine a_le2 (ls' := [some (.ref b), some (.ref (ρ 0 0)), some (.ref (ρ 20 0)), some (.ref (ρ 30 0)), some (.ref (ρ 31 0)), some (.int i), none, none, none]) ⟨rfl, rfl, rfl, rfl, rfl, rfl, trivial⟩ ?_
        exact hk _ _ (by simp only [rmk]; omega) (by simp only [rmk]; omega)
      · have h := ite_f c10 h
        refine a_iconst K (dq 1023 rfl) (v := 0) rfl ?_
        cases h
  · have h := ite_f c8 h
    refine a_iconst K (dq 1012 rfl) (v := 0) rfl ?_
    cases h
def p_lc_24 (xs : Nat → Int32) (L : Nat) (i : Int32) (σ : Sg) : Option Sg := if ib (i + 1) L then ((p_L_drover (xs (i + 1).toNatClampNeg) σ).bind fun r2 => if ib (i + 1) L then ((p_X7_drover (xs (i + 1).toNatClampNeg) r2.2).bind fun r4 => (p_X7_thrown  r4.2).bind fun r5 => if r5 = r2.1 then (if r2.1 = 0 then (if (lg_cmp (gL r4.2) r4.1.toInt64) = 0 then (some r4.2) else (none)) else (some r4.2)) else (none)) else none) else none
set_option maxRecDepth 20000 in
set_option maxHeartbeats 1000000 in
theorem s_lc_24 {l : Launch} {D : va_G} {ty : Nat → ClassId} {ρ : Nat → Nat → Nat} {N0 : Nat} (S : St l ty ρ N0) {xs : Nat → Int32} {L b : Nat} (i : Int32) (σ σ9 : Sg) (h : p_lc_24 xs L i σ = some σ9) {p : Program} {e : Env} {s : State} {m : MethodId} {args : Array Value} {below : List Frame} {meth : Method} {c : Code} {Q : State → Prop} (K : Cx p l s m args meth c code 9 RL ret D ty ρ N0) (hX : va_X b L xs s s.heap) (hbl : b < s.heap.size) (hbA : ¬ N0 ≤ b) {cs ss : Nat} (hcs : cs + 20 ≤ 603072) (hss : ss + 120 ≤ 7207018) (hk : ∀ c9 s9, c9 ≤ cs + 20 → s9 ≤ ss + 120 → WA p l e room_1 s m args below meth c D ty ρ N0 9 Q 2476 [some (.ref b), some (.ref (ρ 0 0)), some (.ref (ρ 20 0)), some (.ref (ρ 30 0)), some (.ref (ρ 31 0)), some (.int i), none, none, none] [] σ9 c9 s9) : WA p l e room_1 s m args below meth c D ty ρ N0 9 Q 1747 [some (.ref b), some (.ref (ρ 0 0)), some (.ref (ρ 20 0)), some (.ref (ρ 30 0)), some (.ref (ρ 31 0)), some (.int i), none, none, none] [] σ cs ss := by
  have dq := @tat _ _ dt_law
  unfold p_lc_24 at h
  refine a_aload_n K (dq 1026 rfl) rfl rfl ?_
  refine a_aload_n K (dq 1027 rfl) rfl rfl ?_
  refine a_iload K (dq 1028 rfl) rfl ?_
  refine a_iconst K (dq 1029 rfl) (v := 1) rfl ?_
  refine a_iadd K (dq 1030 rfl) ?_
  obtain ⟨c1, h⟩ := ib_some h
  refine a_sld K hX hbl hbA c1 (dq 1031 rfl) ?_
  refine a_aload_n K (dq 1032 rfl) rfl rfl ?_
  obtain ⟨r2, h2, h⟩ := bnd h
  refine a_callH K (s_L_drover S (xs (i + 1).toNatClampNeg) σ r2 h2) cw_L_drover mh_L_222 (by decide) rfl (rest := []) rfl (Nat.le_of_ble_eq_true rfl) (dq 1033 rfl) (by constructor <;> (simp only [rmk, room_1]; omega)) ?_
  refine a_istore K (dq 1034 rfl) (Nat.le_of_ble_eq_true rfl) (ls' := [some (.ref b), some (.ref (ρ 0 0)), some (.ref (ρ 20 0)), some (.ref (ρ 30 0)), some (.ref (ρ 31 0)), some (.int i), some (.int r2.1), none, none]) rfl ?_
  refine a_aload_n K (dq 1035 rfl) rfl rfl ?_
  refine a_aload_n K (dq 1036 rfl) rfl rfl ?_
  refine a_iload K (dq 1037 rfl) rfl ?_
  refine a_iconst K (dq 1038 rfl) (v := 1) rfl ?_
  refine a_iadd K (dq 1039 rfl) ?_
  obtain ⟨c3, h⟩ := ib_some h
  refine a_sld K hX hbl hbA c3 (dq 1040 rfl) ?_
  obtain ⟨r4, h4, h⟩ := bnd h
  refine a_callVi K (s_X7_drover S (xs (i + 1).toNatClampNeg) r2.2 r4 h4) v_20 rfl rfl cw_X7_drover ml_L_224 (by decide) rfl (rest := []) rfl (Nat.le_of_ble_eq_true rfl) (dq 1041 rfl) (by constructor <;> (simp only [rmk, room_1]; omega)) ?_
  refine a_istore K (dq 1042 rfl) (Nat.le_of_ble_eq_true rfl) (ls' := [some (.ref b), some (.ref (ρ 0 0)), some (.ref (ρ 20 0)), some (.ref (ρ 30 0)), some (.ref (ρ 31 0)), some (.int i), some (.int r2.1), some (.int r4.1), none]) rfl ?_
  refine a_aload_n K (dq 1043 rfl) rfl rfl ?_
  obtain ⟨r5, h5, h⟩ := bnd h
  refine a_callVi K (s_X7_thrown S  r4.2 r5 h5) v_20 rfl rfl cw_X7_thrown ml_L_147 (by decide) rfl (rest := []) rfl (Nat.le_of_ble_eq_true rfl) (dq 1044 rfl) (by constructor <;> (simp only [rmk, room_1]; omega)) ?_
  refine a_iload K (dq 1045 rfl) rfl ?_
  refine a_icmp_eq K (tgt := 1783) (dq 1046 rfl) rfl (fun c6 => ?_) (fun c6 => ?_)
  · have h := ite_t c6 h
    refine a_iload K (dq 1049 rfl) rfl ?_
    refine a_if_ne K (tgt := 1800) (dq 1050 rfl) rfl (fun c7 => ?_) (fun c7 => ?_)
    · have h := ite_f c7 h
      refine a_goto K (tgt := 2476) (dq 1060 rfl) rfl ?_
      obtain rfl := Option.some.inj h
      refine a_le2 (ls' := [some (.ref b), some (.ref (ρ 0 0)), some (.ref (ρ 20 0)), some (.ref (ρ 30 0)), some (.ref (ρ 31 0)), some (.int i), none, none, none]) ⟨rfl, rfl, rfl, rfl, rfl, rfl, trivial⟩ ?_
      exact hk _ _ (by simp only [rmk]; omega) (by simp only [rmk]; omega)
    · have h := ite_t c7 h
      refine a_aload_n K (dq 1051 rfl) rfl rfl ?_
      refine a_iconst K (dq 1052 rfl) (v := 0) rfl ?_
      refine a_lald K (dq 1053 rfl) ?_
      refine a_iload K (dq 1054 rfl) rfl ?_
      refine a_i2l K (dq 1055 rfl) ?_
      refine a_lcmp K (dq 1056 rfl) ?_
      refine a_if_eq K (tgt := 1800) (dq 1057 rfl) rfl (fun c8 => ?_) (fun c8 => ?_)
      · have h := ite_t c8 h
        refine a_goto K (tgt := 2476) (dq 1060 rfl) rfl ?_
        obtain rfl := Option.some.inj h
        refine a_le2 (ls' := [some (.ref b), some (.ref (ρ 0 0)), some (.ref (ρ 20 0)), some (.ref (ρ 30 0)), some (.ref (ρ 31 0)), some (.int i), none, none, none]) ⟨rfl, rfl, rfl, rfl, rfl, rfl, trivial⟩ ?_
        exact hk _ _ (by simp only [rmk]; omega) (by simp only [rmk]; omega)
      · have h := ite_f c8 h
        refine a_iconst K (dq 1058 rfl) (v := 0) rfl ?_
        cases h
  · have h := ite_f c6 h
    refine a_iconst K (dq 1047 rfl) (v := 0) rfl ?_
    cases h
def p_lc_25 (xs : Nat → Int32) (L : Nat) (i : Int32) (σ : Sg) : Option Sg := if ib (i + 1) L then ((p_L_ranked (xs (i + 1).toNatClampNeg) σ).bind fun r2 => if ib (i + 1) L then ((p_X7_ranked (xs (i + 1).toNatClampNeg) r2.2).bind fun r4 => (p_X7_thrown  r4.2).bind fun r5 => if r5 = r2.1 then (if r2.1 = 0 then (if (lg_cmp (gL r4.2) r4.1.toInt64) = 0 then (some r4.2) else (none)) else (some r4.2)) else (none)) else none) else none
set_option maxRecDepth 20000 in
set_option maxHeartbeats 1000000 in
theorem s_lc_25 {l : Launch} {D : va_G} {ty : Nat → ClassId} {ρ : Nat → Nat → Nat} {N0 : Nat} (S : St l ty ρ N0) {xs : Nat → Int32} {L b : Nat} (i : Int32) (σ σ9 : Sg) (h : p_lc_25 xs L i σ = some σ9) {p : Program} {e : Env} {s : State} {m : MethodId} {args : Array Value} {below : List Frame} {meth : Method} {c : Code} {Q : State → Prop} (K : Cx p l s m args meth c code 9 RL ret D ty ρ N0) (hX : va_X b L xs s s.heap) (hbl : b < s.heap.size) (hbA : ¬ N0 ≤ b) {cs ss : Nat} (hcs : cs + 20 ≤ 603072) (hss : ss + 120 ≤ 7207018) (hk : ∀ c9 s9, c9 ≤ cs + 20 → s9 ≤ ss + 120 → WA p l e room_1 s m args below meth c D ty ρ N0 9 Q 2476 [some (.ref b), some (.ref (ρ 0 0)), some (.ref (ρ 20 0)), some (.ref (ρ 30 0)), some (.ref (ρ 31 0)), some (.int i), none, none, none] [] σ9 c9 s9) : WA p l e room_1 s m args below meth c D ty ρ N0 9 Q 1803 [some (.ref b), some (.ref (ρ 0 0)), some (.ref (ρ 20 0)), some (.ref (ρ 30 0)), some (.ref (ρ 31 0)), some (.int i), none, none, none] [] σ cs ss := by
  have dq := @tat _ _ dt_law
  unfold p_lc_25 at h
  refine a_aload_n K (dq 1061 rfl) rfl rfl ?_
  refine a_aload_n K (dq 1062 rfl) rfl rfl ?_
  refine a_iload K (dq 1063 rfl) rfl ?_
  refine a_iconst K (dq 1064 rfl) (v := 1) rfl ?_
  refine a_iadd K (dq 1065 rfl) ?_
  obtain ⟨c1, h⟩ := ib_some h
  refine a_sld K hX hbl hbA c1 (dq 1066 rfl) ?_
  refine a_aload_n K (dq 1067 rfl) rfl rfl ?_
  obtain ⟨r2, h2, h⟩ := bnd h
  refine a_callH K (s_L_ranked S (xs (i + 1).toNatClampNeg) σ r2 h2) cw_L_ranked mh_L_225 (by decide) rfl (rest := []) rfl (Nat.le_of_ble_eq_true rfl) (dq 1068 rfl) (by constructor <;> (simp only [rmk, room_1]; omega)) ?_
  refine a_istore K (dq 1069 rfl) (Nat.le_of_ble_eq_true rfl) (ls' := [some (.ref b), some (.ref (ρ 0 0)), some (.ref (ρ 20 0)), some (.ref (ρ 30 0)), some (.ref (ρ 31 0)), some (.int i), some (.int r2.1), none, none]) rfl ?_
  refine a_aload_n K (dq 1070 rfl) rfl rfl ?_
  refine a_aload_n K (dq 1071 rfl) rfl rfl ?_
  refine a_iload K (dq 1072 rfl) rfl ?_
  refine a_iconst K (dq 1073 rfl) (v := 1) rfl ?_
  refine a_iadd K (dq 1074 rfl) ?_
  obtain ⟨c3, h⟩ := ib_some h
  refine a_sld K hX hbl hbA c3 (dq 1075 rfl) ?_
  obtain ⟨r4, h4, h⟩ := bnd h
  refine a_callVi K (s_X7_ranked S (xs (i + 1).toNatClampNeg) r2.2 r4 h4) v_20 rfl rfl cw_X7_ranked ml_L_227 (by decide) rfl (rest := []) rfl (Nat.le_of_ble_eq_true rfl) (dq 1076 rfl) (by constructor <;> (simp only [rmk, room_1]; omega)) ?_
  refine a_istore K (dq 1077 rfl) (Nat.le_of_ble_eq_true rfl) (ls' := [some (.ref b), some (.ref (ρ 0 0)), some (.ref (ρ 20 0)), some (.ref (ρ 30 0)), some (.ref (ρ 31 0)), some (.int i), some (.int r2.1), some (.int r4.1), none]) rfl ?_
  refine a_aload_n K (dq 1078 rfl) rfl rfl ?_
  obtain ⟨r5, h5, h⟩ := bnd h
  refine a_callVi K (s_X7_thrown S  r4.2 r5 h5) v_20 rfl rfl cw_X7_thrown ml_L_147 (by decide) rfl (rest := []) rfl (Nat.le_of_ble_eq_true rfl) (dq 1079 rfl) (by constructor <;> (simp only [rmk, room_1]; omega)) ?_
  refine a_iload K (dq 1080 rfl) rfl ?_
  refine a_icmp_eq K (tgt := 1839) (dq 1081 rfl) rfl (fun c6 => ?_) (fun c6 => ?_)
  · have h := ite_t c6 h
    refine a_iload K (dq 1084 rfl) rfl ?_
    refine a_if_ne K (tgt := 1856) (dq 1085 rfl) rfl (fun c7 => ?_) (fun c7 => ?_)
    · have h := ite_f c7 h
      refine a_goto K (tgt := 2476) (dq 1095 rfl) rfl ?_
      obtain rfl := Option.some.inj h
      refine a_le2 (ls' := [some (.ref b), some (.ref (ρ 0 0)), some (.ref (ρ 20 0)), some (.ref (ρ 30 0)), some (.ref (ρ 31 0)), some (.int i), none, none, none]) ⟨rfl, rfl, rfl, rfl, rfl, rfl, trivial⟩ ?_
      exact hk _ _ (by simp only [rmk]; omega) (by simp only [rmk]; omega)
    · have h := ite_t c7 h
      refine a_aload_n K (dq 1086 rfl) rfl rfl ?_
      refine a_iconst K (dq 1087 rfl) (v := 0) rfl ?_
      refine a_lald K (dq 1088 rfl) ?_
      refine a_iload K (dq 1089 rfl) rfl ?_
      refine a_i2l K (dq 1090 rfl) ?_
      refine a_lcmp K (dq 1091 rfl) ?_
      refine a_if_eq K (tgt := 1856) (dq 1092 rfl) rfl (fun c8 => ?_) (fun c8 => ?_)
      · have h := ite_t c8 h
        refine a_goto K (tgt := 2476) (dq 1095 rfl) rfl ?_
        obtain rfl := Option.some.inj h
        refine a_le2 (ls' := [some (.ref b), some (.ref (ρ 0 0)), some (.ref (ρ 20 0)), some (.ref (ρ 30 0)), some (.ref (ρ 31 0)), some (.int i), none, none, none]) ⟨rfl, rfl, rfl, rfl, rfl, rfl, trivial⟩ ?_
        exact hk _ _ (by simp only [rmk]; omega) (by simp only [rmk]; omega)
      · have h := ite_f c8 h
        refine a_iconst K (dq 1093 rfl) (v := 0) rfl ?_
        cases h
  · have h := ite_f c6 h
    refine a_iconst K (dq 1082 rfl) (v := 0) rfl ?_
    cases h
def p_lc_26 (xs : Nat → Int32) (L : Nat) (i : Int32) (σ : Sg) : Option Sg := if ib (i + 1) L then ((p_L_append (((xs (i + 1).toNatClampNeg).toUInt32 % 65536).toInt32) σ).bind fun r2 => if ib (i + 1) L then ((p_X7_append (((xs (i + 1).toNatClampNeg).toUInt32 % 65536).toInt32) r2.2).bind fun r4 => (p_X7_thrown  r4.2).bind fun r5 => if r5 = r2.1 then (if r2.1 = 0 then (if (lg_cmp (gL r4.2) r4.1.toInt64) = 0 then (some r4.2) else (none)) else (some r4.2)) else (none)) else none) else none
set_option maxRecDepth 20000 in
set_option maxHeartbeats 1000000 in
theorem s_lc_26 {l : Launch} {D : va_G} {ty : Nat → ClassId} {ρ : Nat → Nat → Nat} {N0 : Nat} (S : St l ty ρ N0) {xs : Nat → Int32} {L b : Nat} (i : Int32) (σ σ9 : Sg) (h : p_lc_26 xs L i σ = some σ9) {p : Program} {e : Env} {s : State} {m : MethodId} {args : Array Value} {below : List Frame} {meth : Method} {c : Code} {Q : State → Prop} (K : Cx p l s m args meth c code 9 RL ret D ty ρ N0) (hX : va_X b L xs s s.heap) (hbl : b < s.heap.size) (hbA : ¬ N0 ≤ b) {cs ss : Nat} (hcs : cs + 20 ≤ 603072) (hss : ss + 120 ≤ 7207018) (hk : ∀ c9 s9, c9 ≤ cs + 20 → s9 ≤ ss + 120 → WA p l e room_1 s m args below meth c D ty ρ N0 9 Q 2476 [some (.ref b), some (.ref (ρ 0 0)), some (.ref (ρ 20 0)), some (.ref (ρ 30 0)), some (.ref (ρ 31 0)), some (.int i), none, none, none] [] σ9 c9 s9) : WA p l e room_1 s m args below meth c D ty ρ N0 9 Q 1859 [some (.ref b), some (.ref (ρ 0 0)), some (.ref (ρ 20 0)), some (.ref (ρ 30 0)), some (.ref (ρ 31 0)), some (.int i), none, none, none] [] σ cs ss := by
  have dq := @tat _ _ dt_law
  unfold p_lc_26 at h
  refine a_aload_n K (dq 1096 rfl) rfl rfl ?_
  refine a_aload_n K (dq 1097 rfl) rfl rfl ?_
  refine a_iload K (dq 1098 rfl) rfl ?_
  refine a_iconst K (dq 1099 rfl) (v := 1) rfl ?_
  refine a_iadd K (dq 1100 rfl) ?_
  obtain ⟨c1, h⟩ := ib_some h
  refine a_sld K hX hbl hbA c1 (dq 1101 rfl) ?_
  refine a_i2c K (dq 1102 rfl) ?_
  refine a_aload_n K (dq 1103 rfl) rfl rfl ?_
  obtain ⟨r2, h2, h⟩ := bnd h
  refine a_callH K (s_L_append S (((xs (i + 1).toNatClampNeg).toUInt32 % 65536).toInt32) σ r2 h2) cw_L_append mh_L_228 (by decide) rfl (rest := []) rfl (Nat.le_of_ble_eq_true rfl) (dq 1104 rfl) (by constructor <;> (simp only [rmk, room_1]; omega)) ?_
  refine a_istore K (dq 1105 rfl) (Nat.le_of_ble_eq_true rfl) (ls' := [some (.ref b), some (.ref (ρ 0 0)), some (.ref (ρ 20 0)), some (.ref (ρ 30 0)), some (.ref (ρ 31 0)), some (.int i), some (.int r2.1), none, none]) rfl ?_
  refine a_aload_n K (dq 1106 rfl) rfl rfl ?_
  refine a_aload_n K (dq 1107 rfl) rfl rfl ?_
  refine a_iload K (dq 1108 rfl) rfl ?_
  refine a_iconst K (dq 1109 rfl) (v := 1) rfl ?_
  refine a_iadd K (dq 1110 rfl) ?_
  obtain ⟨c3, h⟩ := ib_some h
  refine a_sld K hX hbl hbA c3 (dq 1111 rfl) ?_
  refine a_i2c K (dq 1112 rfl) ?_
  obtain ⟨r4, h4, h⟩ := bnd h
  refine a_callVi K (s_X7_append S (((xs (i + 1).toNatClampNeg).toUInt32 % 65536).toInt32) r2.2 r4 h4) v_20 rfl rfl cw_X7_append ml_L_231 (by decide) rfl (rest := []) rfl (Nat.le_of_ble_eq_true rfl) (dq 1113 rfl) (by constructor <;> (simp only [rmk, room_1]; omega)) ?_
  refine a_istore K (dq 1114 rfl) (Nat.le_of_ble_eq_true rfl) (ls' := [some (.ref b), some (.ref (ρ 0 0)), some (.ref (ρ 20 0)), some (.ref (ρ 30 0)), some (.ref (ρ 31 0)), some (.int i), some (.int r2.1), some (.int r4.1), none]) rfl ?_
  refine a_aload_n K (dq 1115 rfl) rfl rfl ?_
  obtain ⟨r5, h5, h⟩ := bnd h
  refine a_callVi K (s_X7_thrown S  r4.2 r5 h5) v_20 rfl rfl cw_X7_thrown ml_L_147 (by decide) rfl (rest := []) rfl (Nat.le_of_ble_eq_true rfl) (dq 1116 rfl) (by constructor <;> (simp only [rmk, room_1]; omega)) ?_
  refine a_iload K (dq 1117 rfl) rfl ?_
  refine a_icmp_eq K (tgt := 1897) (dq 1118 rfl) rfl (fun c6 => ?_) (fun c6 => ?_)
  · have h := ite_t c6 h
    refine a_iload K (dq 1121 rfl) rfl ?_
    refine a_if_ne K (tgt := 1914) (dq 1122 rfl) rfl (fun c7 => ?_) (fun c7 => ?_)
    · have h := ite_f c7 h
      refine a_goto K (tgt := 2476) (dq 1132 rfl) rfl ?_
      obtain rfl := Option.some.inj h
      refine a_le2 (ls' := [some (.ref b), some (.ref (ρ 0 0)), some (.ref (ρ 20 0)), some (.ref (ρ 30 0)), some (.ref (ρ 31 0)), some (.int i), none, none, none]) ⟨rfl, rfl, rfl, rfl, rfl, rfl, trivial⟩ ?_
      exact hk _ _ (by simp only [rmk]; omega) (by simp only [rmk]; omega)
    · have h := ite_t c7 h
      refine a_aload_n K (dq 1123 rfl) rfl rfl ?_
      refine a_iconst K (dq 1124 rfl) (v := 0) rfl ?_
      refine a_lald K (dq 1125 rfl) ?_
      refine a_iload K (dq 1126 rfl) rfl ?_
      refine a_i2l K (dq 1127 rfl) ?_
      refine a_lcmp K (dq 1128 rfl) ?_
      refine a_if_eq K (tgt := 1914) (dq 1129 rfl) rfl (fun c8 => ?_) (fun c8 => ?_)
      · have h := ite_t c8 h
        refine a_goto K (tgt := 2476) (dq 1132 rfl) rfl ?_
        obtain rfl := Option.some.inj h
        refine a_le2 (ls' := [some (.ref b), some (.ref (ρ 0 0)), some (.ref (ρ 20 0)), some (.ref (ρ 30 0)), some (.ref (ρ 31 0)), some (.int i), none, none, none]) ⟨rfl, rfl, rfl, rfl, rfl, rfl, trivial⟩ ?_
        exact hk _ _ (by simp only [rmk]; omega) (by simp only [rmk]; omega)
      · have h := ite_f c8 h
        refine a_iconst K (dq 1130 rfl) (v := 0) rfl ?_
        cases h
  · have h := ite_f c6 h
    refine a_iconst K (dq 1119 rfl) (v := 0) rfl ?_
    cases h
def p_lc_27 (xs : Nat → Int32) (L : Nat) (i : Int32) (σ : Sg) : Option Sg := (p_L_commands  σ).bind fun r1 => (p_X7_commands  r1.2).bind fun r2 => (p_X7_thrown  r2.2).bind fun r3 => if r3 = r1.1 then (if r1.1 = 0 then (if (lg_cmp (gL r2.2) r2.1.toInt64) = 0 then (some r2.2) else (none)) else (some r2.2)) else (none)
set_option maxRecDepth 20000 in
set_option maxHeartbeats 1000000 in
theorem s_lc_27 {l : Launch} {D : va_G} {ty : Nat → ClassId} {ρ : Nat → Nat → Nat} {N0 : Nat} (S : St l ty ρ N0) {xs : Nat → Int32} {L b : Nat} (i : Int32) (σ σ9 : Sg) (h : p_lc_27 xs L i σ = some σ9) {p : Program} {e : Env} {s : State} {m : MethodId} {args : Array Value} {below : List Frame} {meth : Method} {c : Code} {Q : State → Prop} (K : Cx p l s m args meth c code 9 RL ret D ty ρ N0) (hX : va_X b L xs s s.heap) (hbl : b < s.heap.size) (hbA : ¬ N0 ≤ b) {cs ss : Nat} (hcs : cs + 20 ≤ 603072) (hss : ss + 120 ≤ 7207018) (hk : ∀ c9 s9, c9 ≤ cs + 20 → s9 ≤ ss + 120 → WA p l e room_1 s m args below meth c D ty ρ N0 9 Q 2476 [some (.ref b), some (.ref (ρ 0 0)), some (.ref (ρ 20 0)), some (.ref (ρ 30 0)), some (.ref (ρ 31 0)), some (.int i), none, none, none] [] σ9 c9 s9) : WA p l e room_1 s m args below meth c D ty ρ N0 9 Q 1917 [some (.ref b), some (.ref (ρ 0 0)), some (.ref (ρ 20 0)), some (.ref (ρ 30 0)), some (.ref (ρ 31 0)), some (.int i), none, none, none] [] σ cs ss := by
  have dq := @tat _ _ dt_law
  unfold p_lc_27 at h
  refine a_aload_n K (dq 1133 rfl) rfl rfl ?_
  refine a_aload_n K (dq 1134 rfl) rfl rfl ?_
  obtain ⟨r1, h1, h⟩ := bnd h
  refine a_callH K (s_L_commands S  σ r1 h1) cw_L_commands mh_L_232 (by decide) rfl (rest := []) rfl (Nat.le_of_ble_eq_true rfl) (dq 1135 rfl) (by constructor <;> (simp only [rmk, room_1]; omega)) ?_
  refine a_istore K (dq 1136 rfl) (Nat.le_of_ble_eq_true rfl) (ls' := [some (.ref b), some (.ref (ρ 0 0)), some (.ref (ρ 20 0)), some (.ref (ρ 30 0)), some (.ref (ρ 31 0)), some (.int i), some (.int r1.1), none, none]) rfl ?_
  refine a_aload_n K (dq 1137 rfl) rfl rfl ?_
  obtain ⟨r2, h2, h⟩ := bnd h
  refine a_callVi K (s_X7_commands S  r1.2 r2 h2) v_20 rfl rfl cw_X7_commands ml_L_235 (by decide) rfl (rest := []) rfl (Nat.le_of_ble_eq_true rfl) (dq 1138 rfl) (by constructor <;> (simp only [rmk, room_1]; omega)) ?_
  refine a_istore K (dq 1139 rfl) (Nat.le_of_ble_eq_true rfl) (ls' := [some (.ref b), some (.ref (ρ 0 0)), some (.ref (ρ 20 0)), some (.ref (ρ 30 0)), some (.ref (ρ 31 0)), some (.int i), some (.int r1.1), some (.int r2.1), none]) rfl ?_
  refine a_aload_n K (dq 1140 rfl) rfl rfl ?_
  obtain ⟨r3, h3, h⟩ := bnd h
  refine a_callVi K (s_X7_thrown S  r2.2 r3 h3) v_20 rfl rfl cw_X7_thrown ml_L_147 (by decide) rfl (rest := []) rfl (Nat.le_of_ble_eq_true rfl) (dq 1141 rfl) (by constructor <;> (simp only [rmk, room_1]; omega)) ?_
  refine a_iload K (dq 1142 rfl) rfl ?_
  refine a_icmp_eq K (tgt := 1941) (dq 1143 rfl) rfl (fun c4 => ?_) (fun c4 => ?_)
  · have h := ite_t c4 h
    refine a_iload K (dq 1146 rfl) rfl ?_
    refine a_if_ne K (tgt := 1958) (dq 1147 rfl) rfl (fun c5 => ?_) (fun c5 => ?_)
    · have h := ite_f c5 h
      refine a_goto K (tgt := 2476) (dq 1157 rfl) rfl ?_
      obtain rfl := Option.some.inj h
      refine a_le2 (ls' := [some (.ref b), some (.ref (ρ 0 0)), some (.ref (ρ 20 0)), some (.ref (ρ 30 0)), some (.ref (ρ 31 0)), some (.int i), none, none, none]) ⟨rfl, rfl, rfl, rfl, rfl, rfl, trivial⟩ ?_
      exact hk _ _ (by simp only [rmk]; omega) (by simp only [rmk]; omega)
    · have h := ite_t c5 h
      refine a_aload_n K (dq 1148 rfl) rfl rfl ?_
      refine a_iconst K (dq 1149 rfl) (v := 0) rfl ?_
      refine a_lald K (dq 1150 rfl) ?_
      refine a_iload K (dq 1151 rfl) rfl ?_
      refine a_i2l K (dq 1152 rfl) ?_
      refine a_lcmp K (dq 1153 rfl) ?_
      refine a_if_eq K (tgt := 1958) (dq 1154 rfl) rfl (fun c6 => ?_) (fun c6 => ?_)
      · have h := ite_t c6 h
        refine a_goto K (tgt := 2476) (dq 1157 rfl) rfl ?_
        obtain rfl := Option.some.inj h
        refine a_le2 (ls' := [some (.ref b), some (.ref (ρ 0 0)), some (.ref (ρ 20 0)), some (.ref (ρ 30 0)), some (.ref (ρ 31 0)), some (.int i), none, none, none]) ⟨rfl, rfl, rfl, rfl, rfl, rfl, trivial⟩ ?_
        exact hk _ _ (by simp only [rmk]; omega) (by simp only [rmk]; omega)
      · have h := ite_f c6 h
        refine a_iconst K (dq 1155 rfl) (v := 0) rfl ?_
        cases h
  · have h := ite_f c4 h
    refine a_iconst K (dq 1144 rfl) (v := 0) rfl ?_
    cases h
def p_lc_28 (xs : Nat → Int32) (L : Nat) (i : Int32) (σ : Sg) : Option Sg := (p_X6_faultPosition  σ).bind fun r1 => (p_X7_faultPosition  σ).bind fun r2 => if r1 = r2.1 then (some r2.2) else (none)
set_option maxRecDepth 20000 in
set_option maxHeartbeats 1000000 in
theorem s_lc_28 {l : Launch} {D : va_G} {ty : Nat → ClassId} {ρ : Nat → Nat → Nat} {N0 : Nat} (S : St l ty ρ N0) {xs : Nat → Int32} {L b : Nat} (i : Int32) (σ σ9 : Sg) (h : p_lc_28 xs L i σ = some σ9) {p : Program} {e : Env} {s : State} {m : MethodId} {args : Array Value} {below : List Frame} {meth : Method} {c : Code} {Q : State → Prop} (K : Cx p l s m args meth c code 9 RL ret D ty ρ N0) (hX : va_X b L xs s s.heap) (hbl : b < s.heap.size) (hbA : ¬ N0 ≤ b) {cs ss : Nat} (hcs : cs + 20 ≤ 603072) (hss : ss + 120 ≤ 7207018) (hk : ∀ c9 s9, c9 ≤ cs + 20 → s9 ≤ ss + 120 → WA p l e room_1 s m args below meth c D ty ρ N0 9 Q 2476 [some (.ref b), some (.ref (ρ 0 0)), some (.ref (ρ 20 0)), some (.ref (ρ 30 0)), some (.ref (ρ 31 0)), some (.int i), none, none, none] [] σ9 c9 s9) : WA p l e room_1 s m args below meth c D ty ρ N0 9 Q 1961 [some (.ref b), some (.ref (ρ 0 0)), some (.ref (ρ 20 0)), some (.ref (ρ 30 0)), some (.ref (ρ 31 0)), some (.int i), none, none, none] [] σ cs ss := by
  have dq := @tat _ _ dt_law
  unfold p_lc_28 at h
  refine a_aload_n K (dq 1158 rfl) rfl rfl ?_
  obtain ⟨r1, h1, h⟩ := bnd h
  refine a_callVi K (s_X6_faultPosition S  σ r1 h1) v_0 rfl rfl cw_X6_faultPosition ml_L_236 (by decide) rfl (rest := []) rfl (Nat.le_of_ble_eq_true rfl) (dq 1159 rfl) (by constructor <;> (simp only [rmk, room_1]; omega)) ?_
  refine a_aload_n K (dq 1160 rfl) rfl rfl ?_
  obtain ⟨r2, h2, h⟩ := bnd h
  refine a_callVi K (s_X7_faultPosition S  σ r2 h2) v_20 rfl rfl cw_X7_faultPosition ml_L_239 (by decide) rfl (rest := [.int r1]) rfl (Nat.le_of_ble_eq_true rfl) (dq 1161 rfl) (by constructor <;> (simp only [rmk, room_1]; omega)) ?_
  refine a_icmp_eq K (tgt := 2476) (dq 1162 rfl) rfl (fun c3 => ?_) (fun c3 => ?_)
  · have h := ite_t c3 h
    obtain rfl := Option.some.inj h
    refine a_le2 (ls' := [some (.ref b), some (.ref (ρ 0 0)), some (.ref (ρ 20 0)), some (.ref (ρ 30 0)), some (.ref (ρ 31 0)), some (.int i), none, none, none]) ⟨rfl, rfl, rfl, rfl, rfl, rfl, trivial⟩ ?_
    exact hk _ _ (by simp only [rmk]; omega) (by simp only [rmk]; omega)
  · have h := ite_f c3 h
    refine a_iconst K (dq 1163 rfl) (v := 0) rfl ?_
    cases h
def p_lc_29 (xs : Nat → Int32) (L : Nat) (i : Int32) (σ : Sg) : Option Sg := if ib (i + 1) L then ((p_L_reason (xs (i + 1).toNatClampNeg) σ).bind fun r2 => if ib (i + 1) L then ((p_X7_reason (xs (i + 1).toNatClampNeg) r2.2).bind fun r4 => (p_X7_thrown  r4.2).bind fun r5 => if r5 = r2.1 then (if r2.1 = 0 then (if (lg_cmp (gL r4.2) r4.1.toInt64) = 0 then (some r4.2) else (none)) else (some r4.2)) else (none)) else none) else none
set_option maxRecDepth 20000 in
set_option maxHeartbeats 1000000 in
theorem s_lc_29 {l : Launch} {D : va_G} {ty : Nat → ClassId} {ρ : Nat → Nat → Nat} {N0 : Nat} (S : St l ty ρ N0) {xs : Nat → Int32} {L b : Nat} (i : Int32) (σ σ9 : Sg) (h : p_lc_29 xs L i σ = some σ9) {p : Program} {e : Env} {s : State} {m : MethodId} {args : Array Value} {below : List Frame} {meth : Method} {c : Code} {Q : State → Prop} (K : Cx p l s m args meth c code 9 RL ret D ty ρ N0) (hX : va_X b L xs s s.heap) (hbl : b < s.heap.size) (hbA : ¬ N0 ≤ b) {cs ss : Nat} (hcs : cs + 20 ≤ 603072) (hss : ss + 120 ≤ 7207018) (hk : ∀ c9 s9, c9 ≤ cs + 20 → s9 ≤ ss + 120 → WA p l e room_1 s m args below meth c D ty ρ N0 9 Q 2476 [some (.ref b), some (.ref (ρ 0 0)), some (.ref (ρ 20 0)), some (.ref (ρ 30 0)), some (.ref (ρ 31 0)), some (.int i), none, none, none] [] σ9 c9 s9) : WA p l e room_1 s m args below meth c D ty ρ N0 9 Q 1974 [some (.ref b), some (.ref (ρ 0 0)), some (.ref (ρ 20 0)), some (.ref (ρ 30 0)), some (.ref (ρ 31 0)), some (.int i), none, none, none] [] σ cs ss := by
  have dq := @tat _ _ dt_law
  unfold p_lc_29 at h
  refine a_aload_n K (dq 1165 rfl) rfl rfl ?_
  refine a_aload_n K (dq 1166 rfl) rfl rfl ?_
  refine a_iload K (dq 1167 rfl) rfl ?_
  refine a_iconst K (dq 1168 rfl) (v := 1) rfl ?_
  refine a_iadd K (dq 1169 rfl) ?_
  obtain ⟨c1, h⟩ := ib_some h
  refine a_sld K hX hbl hbA c1 (dq 1170 rfl) ?_
  refine a_aload_n K (dq 1171 rfl) rfl rfl ?_
  obtain ⟨r2, h2, h⟩ := bnd h
  refine a_callH K (s_L_reason S (xs (i + 1).toNatClampNeg) σ r2 h2) cw_L_reason mh_L_240 (by decide) rfl (rest := []) rfl (Nat.le_of_ble_eq_true rfl) (dq 1172 rfl) (by constructor <;> (simp only [rmk, room_1]; omega)) ?_
  refine a_istore K (dq 1173 rfl) (Nat.le_of_ble_eq_true rfl) (ls' := [some (.ref b), some (.ref (ρ 0 0)), some (.ref (ρ 20 0)), some (.ref (ρ 30 0)), some (.ref (ρ 31 0)), some (.int i), some (.int r2.1), none, none]) rfl ?_
  refine a_aload_n K (dq 1174 rfl) rfl rfl ?_
  refine a_aload_n K (dq 1175 rfl) rfl rfl ?_
  refine a_iload K (dq 1176 rfl) rfl ?_
  refine a_iconst K (dq 1177 rfl) (v := 1) rfl ?_
  refine a_iadd K (dq 1178 rfl) ?_
  obtain ⟨c3, h⟩ := ib_some h
  refine a_sld K hX hbl hbA c3 (dq 1179 rfl) ?_
  obtain ⟨r4, h4, h⟩ := bnd h
  refine a_callVi K (s_X7_reason S (xs (i + 1).toNatClampNeg) r2.2 r4 h4) v_20 rfl rfl cw_X7_reason ml_L_242 (by decide) rfl (rest := []) rfl (Nat.le_of_ble_eq_true rfl) (dq 1180 rfl) (by constructor <;> (simp only [rmk, room_1]; omega)) ?_
  refine a_istore K (dq 1181 rfl) (Nat.le_of_ble_eq_true rfl) (ls' := [some (.ref b), some (.ref (ρ 0 0)), some (.ref (ρ 20 0)), some (.ref (ρ 30 0)), some (.ref (ρ 31 0)), some (.int i), some (.int r2.1), some (.int r4.1), none]) rfl ?_
  refine a_aload_n K (dq 1182 rfl) rfl rfl ?_
  obtain ⟨r5, h5, h⟩ := bnd h
  refine a_callVi K (s_X7_thrown S  r4.2 r5 h5) v_20 rfl rfl cw_X7_thrown ml_L_147 (by decide) rfl (rest := []) rfl (Nat.le_of_ble_eq_true rfl) (dq 1183 rfl) (by constructor <;> (simp only [rmk, room_1]; omega)) ?_
  refine a_iload K (dq 1184 rfl) rfl ?_
  refine a_icmp_eq K (tgt := 2010) (dq 1185 rfl) rfl (fun c6 => ?_) (fun c6 => ?_)
  · have h := ite_t c6 h
    refine a_iload K (dq 1188 rfl) rfl ?_
    refine a_if_ne K (tgt := 2027) (dq 1189 rfl) rfl (fun c7 => ?_) (fun c7 => ?_)
    · have h := ite_f c7 h
      refine a_goto K (tgt := 2476) (dq 1199 rfl) rfl ?_
      obtain rfl := Option.some.inj h
      refine a_le2 (ls' := [some (.ref b), some (.ref (ρ 0 0)), some (.ref (ρ 20 0)), some (.ref (ρ 30 0)), some (.ref (ρ 31 0)), some (.int i), none, none, none]) ⟨rfl, rfl, rfl, rfl, rfl, rfl, trivial⟩ ?_
      exact hk _ _ (by simp only [rmk]; omega) (by simp only [rmk]; omega)
    · have h := ite_t c7 h
      refine a_aload_n K (dq 1190 rfl) rfl rfl ?_
      refine a_iconst K (dq 1191 rfl) (v := 0) rfl ?_
      refine a_lald K (dq 1192 rfl) ?_
      refine a_iload K (dq 1193 rfl) rfl ?_
      refine a_i2l K (dq 1194 rfl) ?_
      refine a_lcmp K (dq 1195 rfl) ?_
      refine a_if_eq K (tgt := 2027) (dq 1196 rfl) rfl (fun c8 => ?_) (fun c8 => ?_)
      · have h := ite_t c8 h
        refine a_goto K (tgt := 2476) (dq 1199 rfl) rfl ?_
        obtain rfl := Option.some.inj h
        refine a_le2 (ls' := [some (.ref b), some (.ref (ρ 0 0)), some (.ref (ρ 20 0)), some (.ref (ρ 30 0)), some (.ref (ρ 31 0)), some (.int i), none, none, none]) ⟨rfl, rfl, rfl, rfl, rfl, rfl, trivial⟩ ?_
        exact hk _ _ (by simp only [rmk]; omega) (by simp only [rmk]; omega)
      · have h := ite_f c8 h
        refine a_iconst K (dq 1197 rfl) (v := 0) rfl ?_
        cases h
  · have h := ite_f c6 h
    refine a_iconst K (dq 1186 rfl) (v := 0) rfl ?_
    cases h
def p_lc_30 (xs : Nat → Int32) (L : Nat) (i : Int32) (σ : Sg) : Option Sg := if ib (i + 1) L then (if ib (i + 2) L then ((p_L_way (xs (i + 1).toNatClampNeg) (xs (i + 2).toNatClampNeg) σ).bind fun r3 => if ib (i + 1) L then (if ib (i + 2) L then ((p_X7_way (xs (i + 1).toNatClampNeg) (xs (i + 2).toNatClampNeg) r3.2).bind fun r6 => (p_X7_thrown  r6.2).bind fun r7 => if r7 = r3.1 then (if r3.1 = 0 then (if (lg_cmp (gL r6.2) r6.1.toInt64) = 0 then (some r6.2) else (none)) else (some r6.2)) else (none)) else none) else none) else none) else none
set_option maxRecDepth 20000 in
set_option maxHeartbeats 1000000 in
theorem s_lc_30 {l : Launch} {D : va_G} {ty : Nat → ClassId} {ρ : Nat → Nat → Nat} {N0 : Nat} (S : St l ty ρ N0) {xs : Nat → Int32} {L b : Nat} (i : Int32) (σ σ9 : Sg) (h : p_lc_30 xs L i σ = some σ9) {p : Program} {e : Env} {s : State} {m : MethodId} {args : Array Value} {below : List Frame} {meth : Method} {c : Code} {Q : State → Prop} (K : Cx p l s m args meth c code 9 RL ret D ty ρ N0) (hX : va_X b L xs s s.heap) (hbl : b < s.heap.size) (hbA : ¬ N0 ≤ b) {cs ss : Nat} (hcs : cs + 20 ≤ 603072) (hss : ss + 120 ≤ 7207018) (hk : ∀ c9 s9, c9 ≤ cs + 20 → s9 ≤ ss + 120 → WA p l e room_1 s m args below meth c D ty ρ N0 9 Q 2476 [some (.ref b), some (.ref (ρ 0 0)), some (.ref (ρ 20 0)), some (.ref (ρ 30 0)), some (.ref (ρ 31 0)), some (.int i), none, none, none] [] σ9 c9 s9) : WA p l e room_1 s m args below meth c D ty ρ N0 9 Q 2030 [some (.ref b), some (.ref (ρ 0 0)), some (.ref (ρ 20 0)), some (.ref (ρ 30 0)), some (.ref (ρ 31 0)), some (.int i), none, none, none] [] σ cs ss := by
  have dq := @tat _ _ dt_law
  unfold p_lc_30 at h
  refine a_aload_n K (dq 1200 rfl) rfl rfl ?_
  refine a_aload_n K (dq 1201 rfl) rfl rfl ?_
  refine a_iload K (dq 1202 rfl) rfl ?_
  refine a_iconst K (dq 1203 rfl) (v := 1) rfl ?_
  refine a_iadd K (dq 1204 rfl) ?_
  obtain ⟨c1, h⟩ := ib_some h
  refine a_sld K hX hbl hbA c1 (dq 1205 rfl) ?_
  refine a_aload_n K (dq 1206 rfl) rfl rfl ?_
  refine a_iload K (dq 1207 rfl) rfl ?_
  refine a_iconst K (dq 1208 rfl) (v := 2) rfl ?_
  refine a_iadd K (dq 1209 rfl) ?_
  obtain ⟨c2, h⟩ := ib_some h
  refine a_sld K hX hbl hbA c2 (dq 1210 rfl) ?_
  refine a_aload_n K (dq 1211 rfl) rfl rfl ?_
  obtain ⟨r3, h3, h⟩ := bnd h
  refine a_callH K (s_L_way S (xs (i + 1).toNatClampNeg) (xs (i + 2).toNatClampNeg) σ r3 h3) cw_L_way mh_L_243 (by decide) rfl (rest := []) rfl (Nat.le_of_ble_eq_true rfl) (dq 1212 rfl) (by constructor <;> (simp only [rmk, room_1]; omega)) ?_
  refine a_istore K (dq 1213 rfl) (Nat.le_of_ble_eq_true rfl) (ls' := [some (.ref b), some (.ref (ρ 0 0)), some (.ref (ρ 20 0)), some (.ref (ρ 30 0)), some (.ref (ρ 31 0)), some (.int i), some (.int r3.1), none, none]) rfl ?_
  refine a_aload_n K (dq 1214 rfl) rfl rfl ?_
  refine a_aload_n K (dq 1215 rfl) rfl rfl ?_
  refine a_iload K (dq 1216 rfl) rfl ?_
  refine a_iconst K (dq 1217 rfl) (v := 1) rfl ?_
  refine a_iadd K (dq 1218 rfl) ?_
  obtain ⟨c4, h⟩ := ib_some h
  refine a_sld K hX hbl hbA c4 (dq 1219 rfl) ?_
  refine a_aload_n K (dq 1220 rfl) rfl rfl ?_
  refine a_iload K (dq 1221 rfl) rfl ?_
  refine a_iconst K (dq 1222 rfl) (v := 2) rfl ?_
  refine a_iadd K (dq 1223 rfl) ?_
  obtain ⟨c5, h⟩ := ib_some h
  refine a_sld K hX hbl hbA c5 (dq 1224 rfl) ?_
  obtain ⟨r6, h6, h⟩ := bnd h
  refine a_callVi K (s_X7_way S (xs (i + 1).toNatClampNeg) (xs (i + 2).toNatClampNeg) r3.2 r6 h6) v_20 rfl rfl cw_X7_way ml_L_245 (by decide) rfl (rest := []) rfl (Nat.le_of_ble_eq_true rfl) (dq 1225 rfl) (by constructor <;> (simp only [rmk, room_1]; omega)) ?_
  refine a_istore K (dq 1226 rfl) (Nat.le_of_ble_eq_true rfl) (ls' := [some (.ref b), some (.ref (ρ 0 0)), some (.ref (ρ 20 0)), some (.ref (ρ 30 0)), some (.ref (ρ 31 0)), some (.int i), some (.int r3.1), some (.int r6.1), none]) rfl ?_
  refine a_aload_n K (dq 1227 rfl) rfl rfl ?_
  obtain ⟨r7, h7, h⟩ := bnd h
  refine a_callVi K (s_X7_thrown S  r6.2 r7 h7) v_20 rfl rfl cw_X7_thrown ml_L_147 (by decide) rfl (rest := []) rfl (Nat.le_of_ble_eq_true rfl) (dq 1228 rfl) (by constructor <;> (simp only [rmk, room_1]; omega)) ?_
  refine a_iload K (dq 1229 rfl) rfl ?_
  refine a_icmp_eq K (tgt := 2078) (dq 1230 rfl) rfl (fun c8 => ?_) (fun c8 => ?_)
  · have h := ite_t c8 h
    refine a_iload K (dq 1233 rfl) rfl ?_
    refine a_if_ne K (tgt := 2095) (dq 1234 rfl) rfl (fun c9 => ?_) (fun c9 => ?_)
    · have h := ite_f c9 h
      refine a_goto K (tgt := 2476) (dq 1244 rfl) rfl ?_
      obtain rfl := Option.some.inj h
      refine a_le2 (ls' := [some (.ref b), some (.ref (ρ 0 0)), some (.ref (ρ 20 0)), some (.ref (ρ 30 0)), some (.ref (ρ 31 0)), some (.int i), none, none, none]) ⟨rfl, rfl, rfl, rfl, rfl, rfl, trivial⟩ ?_
      exact hk _ _ (by simp only [rmk]; omega) (by simp only [rmk]; omega)
    · have h := ite_t c9 h
      refine a_aload_n K (dq 1235 rfl) rfl rfl ?_
      refine a_iconst K (dq 1236 rfl) (v := 0) rfl ?_
      refine a_lald K (dq 1237 rfl) ?_
      refine a_iload K (dq 1238 rfl) rfl ?_
      refine a_i2l K (dq 1239 rfl) ?_
      refine a_lcmp K (dq 1240 rfl) ?_
      refine a_if_eq K (tgt := 2095) (dq 1241 rfl) rfl (fun c10 => ?_) (fun c10 => ?_)
      · have h := ite_t c10 h
        refine a_goto K (tgt := 2476) (dq 1244 rfl) rfl ?_
        obtain rfl := Option.some.inj h
        refine a_le2 (ls' := [some (.ref b), some (.ref (ρ 0 0)), some (.ref (ρ 20 0)), some (.ref (ρ 30 0)), some (.ref (ρ 31 0)), some (.int i), none, none, none]) ⟨rfl, rfl, rfl, rfl, rfl, rfl, trivial⟩ ?_
        exact hk _ _ (by simp only [rmk]; omega) (by simp only [rmk]; omega)
      · have h := ite_f c10 h
        refine a_iconst K (dq 1242 rfl) (v := 0) rfl ?_
        cases h
  · have h := ite_f c8 h
    refine a_iconst K (dq 1231 rfl) (v := 0) rfl ?_
    cases h
def p_lc_31 (xs : Nat → Int32) (L : Nat) (i : Int32) (σ : Sg) : Option Sg := if ib (i + 1) L then ((p_L_tree (xs (i + 1).toNatClampNeg) σ).bind fun r2 => if ib (i + 1) L then ((p_X7_tree (xs (i + 1).toNatClampNeg) r2.2).bind fun r4 => (p_X7_thrown  r4.2).bind fun r5 => if r5 = r2.1 then (if r2.1 = 0 then (if (lg_cmp (gL r4.2) r4.1.toInt64) = 0 then (some r4.2) else (none)) else (some r4.2)) else (none)) else none) else none
set_option maxRecDepth 20000 in
set_option maxHeartbeats 1000000 in
theorem s_lc_31 {l : Launch} {D : va_G} {ty : Nat → ClassId} {ρ : Nat → Nat → Nat} {N0 : Nat} (S : St l ty ρ N0) {xs : Nat → Int32} {L b : Nat} (i : Int32) (σ σ9 : Sg) (h : p_lc_31 xs L i σ = some σ9) {p : Program} {e : Env} {s : State} {m : MethodId} {args : Array Value} {below : List Frame} {meth : Method} {c : Code} {Q : State → Prop} (K : Cx p l s m args meth c code 9 RL ret D ty ρ N0) (hX : va_X b L xs s s.heap) (hbl : b < s.heap.size) (hbA : ¬ N0 ≤ b) {cs ss : Nat} (hcs : cs + 20 ≤ 603072) (hss : ss + 120 ≤ 7207018) (hk : ∀ c9 s9, c9 ≤ cs + 20 → s9 ≤ ss + 120 → WA p l e room_1 s m args below meth c D ty ρ N0 9 Q 2476 [some (.ref b), some (.ref (ρ 0 0)), some (.ref (ρ 20 0)), some (.ref (ρ 30 0)), some (.ref (ρ 31 0)), some (.int i), none, none, none] [] σ9 c9 s9) : WA p l e room_1 s m args below meth c D ty ρ N0 9 Q 2098 [some (.ref b), some (.ref (ρ 0 0)), some (.ref (ρ 20 0)), some (.ref (ρ 30 0)), some (.ref (ρ 31 0)), some (.int i), none, none, none] [] σ cs ss := by
  have dq := @tat _ _ dt_law
  unfold p_lc_31 at h
  refine a_aload_n K (dq 1245 rfl) rfl rfl ?_
  refine a_aload_n K (dq 1246 rfl) rfl rfl ?_
  refine a_iload K (dq 1247 rfl) rfl ?_
  refine a_iconst K (dq 1248 rfl) (v := 1) rfl ?_
  refine a_iadd K (dq 1249 rfl) ?_
  obtain ⟨c1, h⟩ := ib_some h
  refine a_sld K hX hbl hbA c1 (dq 1250 rfl) ?_
  refine a_aload_n K (dq 1251 rfl) rfl rfl ?_
  obtain ⟨r2, h2, h⟩ := bnd h
  refine a_callH K (s_L_tree S (xs (i + 1).toNatClampNeg) σ r2 h2) cw_L_tree mh_L_246 (by decide) rfl (rest := []) rfl (Nat.le_of_ble_eq_true rfl) (dq 1252 rfl) (by constructor <;> (simp only [rmk, room_1]; omega)) ?_
  refine a_istore K (dq 1253 rfl) (Nat.le_of_ble_eq_true rfl) (ls' := [some (.ref b), some (.ref (ρ 0 0)), some (.ref (ρ 20 0)), some (.ref (ρ 30 0)), some (.ref (ρ 31 0)), some (.int i), some (.int r2.1), none, none]) rfl ?_
  refine a_aload_n K (dq 1254 rfl) rfl rfl ?_
  refine a_aload_n K (dq 1255 rfl) rfl rfl ?_
  refine a_iload K (dq 1256 rfl) rfl ?_
  refine a_iconst K (dq 1257 rfl) (v := 1) rfl ?_
  refine a_iadd K (dq 1258 rfl) ?_
  obtain ⟨c3, h⟩ := ib_some h
  refine a_sld K hX hbl hbA c3 (dq 1259 rfl) ?_
  obtain ⟨r4, h4, h⟩ := bnd h
  refine a_callVi K (s_X7_tree S (xs (i + 1).toNatClampNeg) r2.2 r4 h4) v_20 rfl rfl cw_X7_tree ml_L_248 (by decide) rfl (rest := []) rfl (Nat.le_of_ble_eq_true rfl) (dq 1260 rfl) (by constructor <;> (simp only [rmk, room_1]; omega)) ?_
  refine a_istore K (dq 1261 rfl) (Nat.le_of_ble_eq_true rfl) (ls' := [some (.ref b), some (.ref (ρ 0 0)), some (.ref (ρ 20 0)), some (.ref (ρ 30 0)), some (.ref (ρ 31 0)), some (.int i), some (.int r2.1), some (.int r4.1), none]) rfl ?_
  refine a_aload_n K (dq 1262 rfl) rfl rfl ?_
  obtain ⟨r5, h5, h⟩ := bnd h
  refine a_callVi K (s_X7_thrown S  r4.2 r5 h5) v_20 rfl rfl cw_X7_thrown ml_L_147 (by decide) rfl (rest := []) rfl (Nat.le_of_ble_eq_true rfl) (dq 1263 rfl) (by constructor <;> (simp only [rmk, room_1]; omega)) ?_
  refine a_iload K (dq 1264 rfl) rfl ?_
  refine a_icmp_eq K (tgt := 2134) (dq 1265 rfl) rfl (fun c6 => ?_) (fun c6 => ?_)
  · have h := ite_t c6 h
    refine a_iload K (dq 1268 rfl) rfl ?_
    refine a_if_ne K (tgt := 2151) (dq 1269 rfl) rfl (fun c7 => ?_) (fun c7 => ?_)
    · have h := ite_f c7 h
      refine a_goto K (tgt := 2476) (dq 1279 rfl) rfl ?_
      obtain rfl := Option.some.inj h
      refine a_le2 (ls' := [some (.ref b), some (.ref (ρ 0 0)), some (.ref (ρ 20 0)), some (.ref (ρ 30 0)), some (.ref (ρ 31 0)), some (.int i), none, none, none]) ⟨rfl, rfl, rfl, rfl, rfl, rfl, trivial⟩ ?_
      exact hk _ _ (by simp only [rmk]; omega) (by simp only [rmk]; omega)
    · have h := ite_t c7 h
      refine a_aload_n K (dq 1270 rfl) rfl rfl ?_
      refine a_iconst K (dq 1271 rfl) (v := 0) rfl ?_
      refine a_lald K (dq 1272 rfl) ?_
      refine a_iload K (dq 1273 rfl) rfl ?_
      refine a_i2l K (dq 1274 rfl) ?_
      refine a_lcmp K (dq 1275 rfl) ?_
      refine a_if_eq K (tgt := 2151) (dq 1276 rfl) rfl (fun c8 => ?_) (fun c8 => ?_)
      · have h := ite_t c8 h
        refine a_goto K (tgt := 2476) (dq 1279 rfl) rfl ?_
        obtain rfl := Option.some.inj h
        refine a_le2 (ls' := [some (.ref b), some (.ref (ρ 0 0)), some (.ref (ρ 20 0)), some (.ref (ρ 30 0)), some (.ref (ρ 31 0)), some (.int i), none, none, none]) ⟨rfl, rfl, rfl, rfl, rfl, rfl, trivial⟩ ?_
        exact hk _ _ (by simp only [rmk]; omega) (by simp only [rmk]; omega)
      · have h := ite_f c8 h
        refine a_iconst K (dq 1277 rfl) (v := 0) rfl ?_
        cases h
  · have h := ite_f c6 h
    refine a_iconst K (dq 1266 rfl) (v := 0) rfl ?_
    cases h
def p_lc_32 (xs : Nat → Int32) (L : Nat) (i : Int32) (σ : Sg) : Option Sg := if ib (i + 1) L then ((p_L_character (xs (i + 1).toNatClampNeg) σ).bind fun r2 => if ib (i + 1) L then ((p_X7_character (xs (i + 1).toNatClampNeg) r2.2).bind fun r4 => (p_X7_thrown  r4.2).bind fun r5 => if r5 = r2.1 then (if r2.1 = 0 then (if (lg_cmp (gL r4.2) r4.1.toInt64) = 0 then (some r4.2) else (none)) else (some r4.2)) else (none)) else none) else none
set_option maxRecDepth 20000 in
set_option maxHeartbeats 1000000 in
theorem s_lc_32 {l : Launch} {D : va_G} {ty : Nat → ClassId} {ρ : Nat → Nat → Nat} {N0 : Nat} (S : St l ty ρ N0) {xs : Nat → Int32} {L b : Nat} (i : Int32) (σ σ9 : Sg) (h : p_lc_32 xs L i σ = some σ9) {p : Program} {e : Env} {s : State} {m : MethodId} {args : Array Value} {below : List Frame} {meth : Method} {c : Code} {Q : State → Prop} (K : Cx p l s m args meth c code 9 RL ret D ty ρ N0) (hX : va_X b L xs s s.heap) (hbl : b < s.heap.size) (hbA : ¬ N0 ≤ b) {cs ss : Nat} (hcs : cs + 20 ≤ 603072) (hss : ss + 120 ≤ 7207018) (hk : ∀ c9 s9, c9 ≤ cs + 20 → s9 ≤ ss + 120 → WA p l e room_1 s m args below meth c D ty ρ N0 9 Q 2476 [some (.ref b), some (.ref (ρ 0 0)), some (.ref (ρ 20 0)), some (.ref (ρ 30 0)), some (.ref (ρ 31 0)), some (.int i), none, none, none] [] σ9 c9 s9) : WA p l e room_1 s m args below meth c D ty ρ N0 9 Q 2154 [some (.ref b), some (.ref (ρ 0 0)), some (.ref (ρ 20 0)), some (.ref (ρ 30 0)), some (.ref (ρ 31 0)), some (.int i), none, none, none] [] σ cs ss := by
  have dq := @tat _ _ dt_law
  unfold p_lc_32 at h
  refine a_aload_n K (dq 1280 rfl) rfl rfl ?_
  refine a_aload_n K (dq 1281 rfl) rfl rfl ?_
  refine a_iload K (dq 1282 rfl) rfl ?_
  refine a_iconst K (dq 1283 rfl) (v := 1) rfl ?_
  refine a_iadd K (dq 1284 rfl) ?_
  obtain ⟨c1, h⟩ := ib_some h
  refine a_sld K hX hbl hbA c1 (dq 1285 rfl) ?_
  refine a_aload_n K (dq 1286 rfl) rfl rfl ?_
  obtain ⟨r2, h2, h⟩ := bnd h
  refine a_callH K (s_L_character S (xs (i + 1).toNatClampNeg) σ r2 h2) cw_L_character mh_L_249 (by decide) rfl (rest := []) rfl (Nat.le_of_ble_eq_true rfl) (dq 1287 rfl) (by constructor <;> (simp only [rmk, room_1]; omega)) ?_
  refine a_istore K (dq 1288 rfl) (Nat.le_of_ble_eq_true rfl) (ls' := [some (.ref b), some (.ref (ρ 0 0)), some (.ref (ρ 20 0)), some (.ref (ρ 30 0)), some (.ref (ρ 31 0)), some (.int i), some (.int r2.1), none, none]) rfl ?_
  refine a_aload_n K (dq 1289 rfl) rfl rfl ?_
  refine a_aload_n K (dq 1290 rfl) rfl rfl ?_
  refine a_iload K (dq 1291 rfl) rfl ?_
  refine a_iconst K (dq 1292 rfl) (v := 1) rfl ?_
  refine a_iadd K (dq 1293 rfl) ?_
  obtain ⟨c3, h⟩ := ib_some h
  refine a_sld K hX hbl hbA c3 (dq 1294 rfl) ?_
  obtain ⟨r4, h4, h⟩ := bnd h
  refine a_callVi K (s_X7_character S (xs (i + 1).toNatClampNeg) r2.2 r4 h4) v_20 rfl rfl cw_X7_character ml_L_251 (by decide) rfl (rest := []) rfl (Nat.le_of_ble_eq_true rfl) (dq 1295 rfl) (by constructor <;> (simp only [rmk, room_1]; omega)) ?_
  refine a_istore K (dq 1296 rfl) (Nat.le_of_ble_eq_true rfl) (ls' := [some (.ref b), some (.ref (ρ 0 0)), some (.ref (ρ 20 0)), some (.ref (ρ 30 0)), some (.ref (ρ 31 0)), some (.int i), some (.int r2.1), some (.int r4.1), none]) rfl ?_
  refine a_aload_n K (dq 1297 rfl) rfl rfl ?_
  obtain ⟨r5, h5, h⟩ := bnd h
  refine a_callVi K (s_X7_thrown S  r4.2 r5 h5) v_20 rfl rfl cw_X7_thrown ml_L_147 (by decide) rfl (rest := []) rfl (Nat.le_of_ble_eq_true rfl) (dq 1298 rfl) (by constructor <;> (simp only [rmk, room_1]; omega)) ?_
  refine a_iload K (dq 1299 rfl) rfl ?_
  refine a_icmp_eq K (tgt := 2190) (dq 1300 rfl) rfl (fun c6 => ?_) (fun c6 => ?_)
  · have h := ite_t c6 h
    refine a_iload K (dq 1303 rfl) rfl ?_
    refine a_if_ne K (tgt := 2207) (dq 1304 rfl) rfl (fun c7 => ?_) (fun c7 => ?_)
    · have h := ite_f c7 h
      refine a_goto K (tgt := 2476) (dq 1314 rfl) rfl ?_
      obtain rfl := Option.some.inj h
      refine a_le2 (ls' := [some (.ref b), some (.ref (ρ 0 0)), some (.ref (ρ 20 0)), some (.ref (ρ 30 0)), some (.ref (ρ 31 0)), some (.int i), none, none, none]) ⟨rfl, rfl, rfl, rfl, rfl, rfl, trivial⟩ ?_
      exact hk _ _ (by simp only [rmk]; omega) (by simp only [rmk]; omega)
    · have h := ite_t c7 h
      refine a_aload_n K (dq 1305 rfl) rfl rfl ?_
      refine a_iconst K (dq 1306 rfl) (v := 0) rfl ?_
      refine a_lald K (dq 1307 rfl) ?_
      refine a_iload K (dq 1308 rfl) rfl ?_
      refine a_i2l K (dq 1309 rfl) ?_
      refine a_lcmp K (dq 1310 rfl) ?_
      refine a_if_eq K (tgt := 2207) (dq 1311 rfl) rfl (fun c8 => ?_) (fun c8 => ?_)
      · have h := ite_t c8 h
        refine a_goto K (tgt := 2476) (dq 1314 rfl) rfl ?_
        obtain rfl := Option.some.inj h
        refine a_le2 (ls' := [some (.ref b), some (.ref (ρ 0 0)), some (.ref (ρ 20 0)), some (.ref (ρ 30 0)), some (.ref (ρ 31 0)), some (.int i), none, none, none]) ⟨rfl, rfl, rfl, rfl, rfl, rfl, trivial⟩ ?_
        exact hk _ _ (by simp only [rmk]; omega) (by simp only [rmk]; omega)
      · have h := ite_f c8 h
        refine a_iconst K (dq 1312 rfl) (v := 0) rfl ?_
        cases h
  · have h := ite_f c6 h
    refine a_iconst K (dq 1301 rfl) (v := 0) rfl ?_
    cases h
def p_lc_33 (xs : Nat → Int32) (L : Nat) (i : Int32) (σ : Sg) : Option Sg := (p_L_meanToll  σ).bind fun r1 => (p_X7_meanToll  r1.2).bind fun r2 => (p_X7_thrown  r2.2).bind fun r3 => if r3 = r1.1 then (if r1.1 = 0 then (if (lg_cmp (gL r2.2) r2.1.toInt64) = 0 then (some r2.2) else (none)) else (some r2.2)) else (none)
set_option maxRecDepth 20000 in
set_option maxHeartbeats 1000000 in
theorem s_lc_33 {l : Launch} {D : va_G} {ty : Nat → ClassId} {ρ : Nat → Nat → Nat} {N0 : Nat} (S : St l ty ρ N0) {xs : Nat → Int32} {L b : Nat} (i : Int32) (σ σ9 : Sg) (h : p_lc_33 xs L i σ = some σ9) {p : Program} {e : Env} {s : State} {m : MethodId} {args : Array Value} {below : List Frame} {meth : Method} {c : Code} {Q : State → Prop} (K : Cx p l s m args meth c code 9 RL ret D ty ρ N0) (hX : va_X b L xs s s.heap) (hbl : b < s.heap.size) (hbA : ¬ N0 ≤ b) {cs ss : Nat} (hcs : cs + 20 ≤ 603072) (hss : ss + 120 ≤ 7207018) (hk : ∀ c9 s9, c9 ≤ cs + 20 → s9 ≤ ss + 120 → WA p l e room_1 s m args below meth c D ty ρ N0 9 Q 2476 [some (.ref b), some (.ref (ρ 0 0)), some (.ref (ρ 20 0)), some (.ref (ρ 30 0)), some (.ref (ρ 31 0)), some (.int i), none, none, none] [] σ9 c9 s9) : WA p l e room_1 s m args below meth c D ty ρ N0 9 Q 2210 [some (.ref b), some (.ref (ρ 0 0)), some (.ref (ρ 20 0)), some (.ref (ρ 30 0)), some (.ref (ρ 31 0)), some (.int i), none, none, none] [] σ cs ss := by
  have dq := @tat _ _ dt_law
  unfold p_lc_33 at h
  refine a_aload_n K (dq 1315 rfl) rfl rfl ?_
  refine a_aload_n K (dq 1316 rfl) rfl rfl ?_
  obtain ⟨r1, h1, h⟩ := bnd h
  refine a_callH K (s_L_meanToll S  σ r1 h1) cw_L_meanToll mh_L_252 (by decide) rfl (rest := []) rfl (Nat.le_of_ble_eq_true rfl) (dq 1317 rfl) (by constructor <;> (simp only [rmk, room_1]; omega)) ?_
  refine a_istore K (dq 1318 rfl) (Nat.le_of_ble_eq_true rfl) (ls' := [some (.ref b), some (.ref (ρ 0 0)), some (.ref (ρ 20 0)), some (.ref (ρ 30 0)), some (.ref (ρ 31 0)), some (.int i), some (.int r1.1), none, none]) rfl ?_
  refine a_aload_n K (dq 1319 rfl) rfl rfl ?_
  obtain ⟨r2, h2, h⟩ := bnd h
  refine a_callVi K (s_X7_meanToll S  r1.2 r2 h2) v_20 rfl rfl cw_X7_meanToll ml_L_254 (by decide) rfl (rest := []) rfl (Nat.le_of_ble_eq_true rfl) (dq 1320 rfl) (by constructor <;> (simp only [rmk, room_1]; omega)) ?_
  refine a_istore K (dq 1321 rfl) (Nat.le_of_ble_eq_true rfl) (ls' := [some (.ref b), some (.ref (ρ 0 0)), some (.ref (ρ 20 0)), some (.ref (ρ 30 0)), some (.ref (ρ 31 0)), some (.int i), some (.int r1.1), some (.int r2.1), none]) rfl ?_
  refine a_aload_n K (dq 1322 rfl) rfl rfl ?_
  obtain ⟨r3, h3, h⟩ := bnd h
  refine a_callVi K (s_X7_thrown S  r2.2 r3 h3) v_20 rfl rfl cw_X7_thrown ml_L_147 (by decide) rfl (rest := []) rfl (Nat.le_of_ble_eq_true rfl) (dq 1323 rfl) (by constructor <;> (simp only [rmk, room_1]; omega)) ?_
  refine a_iload K (dq 1324 rfl) rfl ?_
  refine a_icmp_eq K (tgt := 2234) (dq 1325 rfl) rfl (fun c4 => ?_) (fun c4 => ?_)
  · have h := ite_t c4 h
    refine a_iload K (dq 1328 rfl) rfl ?_
    refine a_if_ne K (tgt := 2251) (dq 1329 rfl) rfl (fun c5 => ?_) (fun c5 => ?_)
    · have h := ite_f c5 h
      refine a_goto K (tgt := 2476) (dq 1339 rfl) rfl ?_
      obtain rfl := Option.some.inj h
      refine a_le2 (ls' := [some (.ref b), some (.ref (ρ 0 0)), some (.ref (ρ 20 0)), some (.ref (ρ 30 0)), some (.ref (ρ 31 0)), some (.int i), none, none, none]) ⟨rfl, rfl, rfl, rfl, rfl, rfl, trivial⟩ ?_
      exact hk _ _ (by simp only [rmk]; omega) (by simp only [rmk]; omega)
    · have h := ite_t c5 h
      refine a_aload_n K (dq 1330 rfl) rfl rfl ?_
      refine a_iconst K (dq 1331 rfl) (v := 0) rfl ?_
      refine a_lald K (dq 1332 rfl) ?_
      refine a_iload K (dq 1333 rfl) rfl ?_
      refine a_i2l K (dq 1334 rfl) ?_
      refine a_lcmp K (dq 1335 rfl) ?_
      refine a_if_eq K (tgt := 2251) (dq 1336 rfl) rfl (fun c6 => ?_) (fun c6 => ?_)
      · have h := ite_t c6 h
        refine a_goto K (tgt := 2476) (dq 1339 rfl) rfl ?_
        obtain rfl := Option.some.inj h
        refine a_le2 (ls' := [some (.ref b), some (.ref (ρ 0 0)), some (.ref (ρ 20 0)), some (.ref (ρ 30 0)), some (.ref (ρ 31 0)), some (.int i), none, none, none]) ⟨rfl, rfl, rfl, rfl, rfl, rfl, trivial⟩ ?_
        exact hk _ _ (by simp only [rmk]; omega) (by simp only [rmk]; omega)
      · have h := ite_f c6 h
        refine a_iconst K (dq 1337 rfl) (v := 0) rfl ?_
        cases h
  · have h := ite_f c4 h
    refine a_iconst K (dq 1326 rfl) (v := 0) rfl ?_
    cases h
def p_lc_35 (xs : Nat → Int32) (L : Nat) (i : Int32) (σ : Sg) : Option Sg := if ib (i + 1) L then ((p_L_account (xs (i + 1).toNatClampNeg) σ).bind fun r2 => if ib (i + 1) L then ((p_X7_account (xs (i + 1).toNatClampNeg) r2.2).bind fun r4 => (p_X7_thrown  r4.2).bind fun r5 => if r5 = r2.1 then (if r2.1 = 0 then (if (lg_cmp (gL r4.2) r4.1.toInt64) = 0 then (some r4.2) else (none)) else (some r4.2)) else (none)) else none) else none
set_option maxRecDepth 20000 in
set_option maxHeartbeats 1000000 in
theorem s_lc_35 {l : Launch} {D : va_G} {ty : Nat → ClassId} {ρ : Nat → Nat → Nat} {N0 : Nat} (S : St l ty ρ N0) {xs : Nat → Int32} {L b : Nat} (i : Int32) (σ σ9 : Sg) (h : p_lc_35 xs L i σ = some σ9) {p : Program} {e : Env} {s : State} {m : MethodId} {args : Array Value} {below : List Frame} {meth : Method} {c : Code} {Q : State → Prop} (K : Cx p l s m args meth c code 9 RL ret D ty ρ N0) (hX : va_X b L xs s s.heap) (hbl : b < s.heap.size) (hbA : ¬ N0 ≤ b) {cs ss : Nat} (hcs : cs + 20 ≤ 603072) (hss : ss + 120 ≤ 7207018) (hk : ∀ c9 s9, c9 ≤ cs + 20 → s9 ≤ ss + 120 → WA p l e room_1 s m args below meth c D ty ρ N0 9 Q 2476 [some (.ref b), some (.ref (ρ 0 0)), some (.ref (ρ 20 0)), some (.ref (ρ 30 0)), some (.ref (ρ 31 0)), some (.int i), none, none, none] [] σ9 c9 s9) : WA p l e room_1 s m args below meth c D ty ρ N0 9 Q 2319 [some (.ref b), some (.ref (ρ 0 0)), some (.ref (ρ 20 0)), some (.ref (ρ 30 0)), some (.ref (ρ 31 0)), some (.int i), none, none, none] [] σ cs ss := by
  have dq := @tat _ _ dt_law
  unfold p_lc_35 at h
  refine a_aload_n K (dq 1376 rfl) rfl rfl ?_
  refine a_aload_n K (dq 1377 rfl) rfl rfl ?_
  refine a_iload K (dq 1378 rfl) rfl ?_
  refine a_iconst K (dq 1379 rfl) (v := 1) rfl ?_
  refine a_iadd K (dq 1380 rfl) ?_
  obtain ⟨c1, h⟩ := ib_some h
  refine a_sld K hX hbl hbA c1 (dq 1381 rfl) ?_
  refine a_aload_n K (dq 1382 rfl) rfl rfl ?_
  obtain ⟨r2, h2, h⟩ := bnd h
  refine a_callH K (s_L_account S (xs (i + 1).toNatClampNeg) σ r2 h2) cw_L_account mh_L_259 (by decide) rfl (rest := []) rfl (Nat.le_of_ble_eq_true rfl) (dq 1383 rfl) (by constructor <;> (simp only [rmk, room_1]; omega)) ?_
  refine a_istore K (dq 1384 rfl) (Nat.le_of_ble_eq_true rfl) (ls' := [some (.ref b), some (.ref (ρ 0 0)), some (.ref (ρ 20 0)), some (.ref (ρ 30 0)), some (.ref (ρ 31 0)), some (.int i), some (.int r2.1), none, none]) rfl ?_
  refine a_aload_n K (dq 1385 rfl) rfl rfl ?_
  refine a_aload_n K (dq 1386 rfl) rfl rfl ?_
  refine a_iload K (dq 1387 rfl) rfl ?_
  refine a_iconst K (dq 1388 rfl) (v := 1) rfl ?_
  refine a_iadd K (dq 1389 rfl) ?_
  obtain ⟨c3, h⟩ := ib_some h
  refine a_sld K hX hbl hbA c3 (dq 1390 rfl) ?_
  obtain ⟨r4, h4, h⟩ := bnd h
  refine a_callVi K (s_X7_account S (xs (i + 1).toNatClampNeg) r2.2 r4 h4) v_20 rfl rfl cw_X7_account ml_L_261 (by decide) rfl (rest := []) rfl (Nat.le_of_ble_eq_true rfl) (dq 1391 rfl) (by constructor <;> (simp only [rmk, room_1]; omega)) ?_
  refine a_istore K (dq 1392 rfl) (Nat.le_of_ble_eq_true rfl) (ls' := [some (.ref b), some (.ref (ρ 0 0)), some (.ref (ρ 20 0)), some (.ref (ρ 30 0)), some (.ref (ρ 31 0)), some (.int i), some (.int r2.1), some (.int r4.1), none]) rfl ?_
  refine a_aload_n K (dq 1393 rfl) rfl rfl ?_
  obtain ⟨r5, h5, h⟩ := bnd h
  refine a_callVi K (s_X7_thrown S  r4.2 r5 h5) v_20 rfl rfl cw_X7_thrown ml_L_147 (by decide) rfl (rest := []) rfl (Nat.le_of_ble_eq_true rfl) (dq 1394 rfl) (by constructor <;> (simp only [rmk, room_1]; omega)) ?_
  refine a_iload K (dq 1395 rfl) rfl ?_
  refine a_icmp_eq K (tgt := 2355) (dq 1396 rfl) rfl (fun c6 => ?_) (fun c6 => ?_)
  · have h := ite_t c6 h
    refine a_iload K (dq 1399 rfl) rfl ?_
    refine a_if_ne K (tgt := 2372) (dq 1400 rfl) rfl (fun c7 => ?_) (fun c7 => ?_)
    · have h := ite_f c7 h
      refine a_goto K (tgt := 2476) (dq 1410 rfl) rfl ?_
      obtain rfl := Option.some.inj h
      refine a_le2 (ls' := [some (.ref b), some (.ref (ρ 0 0)), some (.ref (ρ 20 0)), some (.ref (ρ 30 0)), some (.ref (ρ 31 0)), some (.int i), none, none, none]) ⟨rfl, rfl, rfl, rfl, rfl, rfl, trivial⟩ ?_
      exact hk _ _ (by simp only [rmk]; omega) (by simp only [rmk]; omega)
    · have h := ite_t c7 h
      refine a_aload_n K (dq 1401 rfl) rfl rfl ?_
      refine a_iconst K (dq 1402 rfl) (v := 0) rfl ?_
      refine a_lald K (dq 1403 rfl) ?_
      refine a_iload K (dq 1404 rfl) rfl ?_
      refine a_i2l K (dq 1405 rfl) ?_
      refine a_lcmp K (dq 1406 rfl) ?_
      refine a_if_eq K (tgt := 2372) (dq 1407 rfl) rfl (fun c8 => ?_) (fun c8 => ?_)
      · have h := ite_t c8 h
        refine a_goto K (tgt := 2476) (dq 1410 rfl) rfl ?_
        obtain rfl := Option.some.inj h
        refine a_le2 (ls' := [some (.ref b), some (.ref (ρ 0 0)), some (.ref (ρ 20 0)), some (.ref (ρ 30 0)), some (.ref (ρ 31 0)), some (.int i), none, none, none]) ⟨rfl, rfl, rfl, rfl, rfl, rfl, trivial⟩ ?_
        exact hk _ _ (by simp only [rmk]; omega) (by simp only [rmk]; omega)
      · have h := ite_f c8 h
        refine a_iconst K (dq 1408 rfl) (v := 0) rfl ?_
        cases h
  · have h := ite_f c6 h
    refine a_iconst K (dq 1397 rfl) (v := 0) rfl ?_
    cases h
def p_lc_36 (xs : Nat → Int32) (L : Nat) (i : Int32) (σ : Sg) : Option Sg := (p_L_undo  σ).bind fun r1 => (p_X7_undo  r1.2).bind fun r2 => (p_X7_thrown  r2.2).bind fun r3 => if r3 = r1.1 then (if r1.1 = 0 then (if (lg_cmp (gL r2.2) r2.1.toInt64) = 0 then (some r2.2) else (none)) else (some r2.2)) else (none)
set_option maxRecDepth 20000 in
set_option maxHeartbeats 1000000 in
theorem s_lc_36 {l : Launch} {D : va_G} {ty : Nat → ClassId} {ρ : Nat → Nat → Nat} {N0 : Nat} (S : St l ty ρ N0) {xs : Nat → Int32} {L b : Nat} (i : Int32) (σ σ9 : Sg) (h : p_lc_36 xs L i σ = some σ9) {p : Program} {e : Env} {s : State} {m : MethodId} {args : Array Value} {below : List Frame} {meth : Method} {c : Code} {Q : State → Prop} (K : Cx p l s m args meth c code 9 RL ret D ty ρ N0) (hX : va_X b L xs s s.heap) (hbl : b < s.heap.size) (hbA : ¬ N0 ≤ b) {cs ss : Nat} (hcs : cs + 20 ≤ 603072) (hss : ss + 120 ≤ 7207018) (hk : ∀ c9 s9, c9 ≤ cs + 20 → s9 ≤ ss + 120 → WA p l e room_1 s m args below meth c D ty ρ N0 9 Q 2476 [some (.ref b), some (.ref (ρ 0 0)), some (.ref (ρ 20 0)), some (.ref (ρ 30 0)), some (.ref (ρ 31 0)), some (.int i), none, none, none] [] σ9 c9 s9) : WA p l e room_1 s m args below meth c D ty ρ N0 9 Q 2375 [some (.ref b), some (.ref (ρ 0 0)), some (.ref (ρ 20 0)), some (.ref (ρ 30 0)), some (.ref (ρ 31 0)), some (.int i), none, none, none] [] σ cs ss := by
  have dq := @tat _ _ dt_law
  unfold p_lc_36 at h
  refine a_aload_n K (dq 1411 rfl) rfl rfl ?_
  refine a_aload_n K (dq 1412 rfl) rfl rfl ?_
  obtain ⟨r1, h1, h⟩ := bnd h
  refine a_callH K (s_L_undo S  σ r1 h1) cw_L_undo mh_L_262 (by decide) rfl (rest := []) rfl (Nat.le_of_ble_eq_true rfl) (dq 1413 rfl) (by constructor <;> (simp only [rmk, room_1]; omega)) ?_
  refine a_istore K (dq 1414 rfl) (Nat.le_of_ble_eq_true rfl) (ls' := [some (.ref b), some (.ref (ρ 0 0)), some (.ref (ρ 20 0)), some (.ref (ρ 30 0)), some (.ref (ρ 31 0)), some (.int i), some (.int r1.1), none, none]) rfl ?_
  refine a_aload_n K (dq 1415 rfl) rfl rfl ?_
  obtain ⟨r2, h2, h⟩ := bnd h
  refine a_callVi K (s_X7_undo S  r1.2 r2 h2) v_20 rfl rfl cw_X7_undo ml_L_264 (by decide) rfl (rest := []) rfl (Nat.le_of_ble_eq_true rfl) (dq 1416 rfl) (by constructor <;> (simp only [rmk, room_1]; omega)) ?_
  refine a_istore K (dq 1417 rfl) (Nat.le_of_ble_eq_true rfl) (ls' := [some (.ref b), some (.ref (ρ 0 0)), some (.ref (ρ 20 0)), some (.ref (ρ 30 0)), some (.ref (ρ 31 0)), some (.int i), some (.int r1.1), some (.int r2.1), none]) rfl ?_
  refine a_aload_n K (dq 1418 rfl) rfl rfl ?_
  obtain ⟨r3, h3, h⟩ := bnd h
  refine a_callVi K (s_X7_thrown S  r2.2 r3 h3) v_20 rfl rfl cw_X7_thrown ml_L_147 (by decide) rfl (rest := []) rfl (Nat.le_of_ble_eq_true rfl) (dq 1419 rfl) (by constructor <;> (simp only [rmk, room_1]; omega)) ?_
  refine a_iload K (dq 1420 rfl) rfl ?_
  refine a_icmp_eq K (tgt := 2399) (dq 1421 rfl) rfl (fun c4 => ?_) (fun c4 => ?_)
  · have h := ite_t c4 h
    refine a_iload K (dq 1424 rfl) rfl ?_
    refine a_if_ne K (tgt := 2416) (dq 1425 rfl) rfl (fun c5 => ?_) (fun c5 => ?_)
    · have h := ite_f c5 h
      refine a_goto K (tgt := 2476) (dq 1435 rfl) rfl ?_
      obtain rfl := Option.some.inj h
      refine a_le2 (ls' := [some (.ref b), some (.ref (ρ 0 0)), some (.ref (ρ 20 0)), some (.ref (ρ 30 0)), some (.ref (ρ 31 0)), some (.int i), none, none, none]) ⟨rfl, rfl, rfl, rfl, rfl, rfl, trivial⟩ ?_
      exact hk _ _ (by simp only [rmk]; omega) (by simp only [rmk]; omega)
    · have h := ite_t c5 h
      refine a_aload_n K (dq 1426 rfl) rfl rfl ?_
      refine a_iconst K (dq 1427 rfl) (v := 0) rfl ?_
      refine a_lald K (dq 1428 rfl) ?_
      refine a_iload K (dq 1429 rfl) rfl ?_
      refine a_i2l K (dq 1430 rfl) ?_
      refine a_lcmp K (dq 1431 rfl) ?_
      refine a_if_eq K (tgt := 2416) (dq 1432 rfl) rfl (fun c6 => ?_) (fun c6 => ?_)
      · have h := ite_t c6 h
        refine a_goto K (tgt := 2476) (dq 1435 rfl) rfl ?_
        obtain rfl := Option.some.inj h
        refine a_le2 (ls' := [some (.ref b), some (.ref (ρ 0 0)), some (.ref (ρ 20 0)), some (.ref (ρ 30 0)), some (.ref (ρ 31 0)), some (.int i), none, none, none]) ⟨rfl, rfl, rfl, rfl, rfl, rfl, trivial⟩ ?_
        exact hk _ _ (by simp only [rmk]; omega) (by simp only [rmk]; omega)
      · have h := ite_f c6 h
        refine a_iconst K (dq 1433 rfl) (v := 0) rfl ?_
        cases h
  · have h := ite_f c4 h
    refine a_iconst K (dq 1422 rfl) (v := 0) rfl ?_
    cases h
def p_lc_37 (xs : Nat → Int32) (L : Nat) (i : Int32) (σ : Sg) : Option Sg := (p_X6_save  σ).bind fun r1 => (p_X7_save  r1.2).bind fun r2 => if r1.1 = r2.1 then (some r2.2) else (none)
set_option maxRecDepth 20000 in
set_option maxHeartbeats 1000000 in
theorem s_lc_37 {l : Launch} {D : va_G} {ty : Nat → ClassId} {ρ : Nat → Nat → Nat} {N0 : Nat} (S : St l ty ρ N0) {xs : Nat → Int32} {L b : Nat} (i : Int32) (σ σ9 : Sg) (h : p_lc_37 xs L i σ = some σ9) {p : Program} {e : Env} {s : State} {m : MethodId} {args : Array Value} {below : List Frame} {meth : Method} {c : Code} {Q : State → Prop} (K : Cx p l s m args meth c code 9 RL ret D ty ρ N0) (hX : va_X b L xs s s.heap) (hbl : b < s.heap.size) (hbA : ¬ N0 ≤ b) {cs ss : Nat} (hcs : cs + 20 ≤ 603072) (hss : ss + 120 ≤ 7207018) (hk : ∀ c9 s9, c9 ≤ cs + 20 → s9 ≤ ss + 120 → WA p l e room_1 s m args below meth c D ty ρ N0 9 Q 2476 [some (.ref b), some (.ref (ρ 0 0)), some (.ref (ρ 20 0)), some (.ref (ρ 30 0)), some (.ref (ρ 31 0)), some (.int i), none, none, none] [] σ9 c9 s9) : WA p l e room_1 s m args below meth c D ty ρ N0 9 Q 2419 [some (.ref b), some (.ref (ρ 0 0)), some (.ref (ρ 20 0)), some (.ref (ρ 30 0)), some (.ref (ρ 31 0)), some (.int i), none, none, none] [] σ cs ss := by
  have dq := @tat _ _ dt_law
  unfold p_lc_37 at h
  refine a_aload_n K (dq 1436 rfl) rfl rfl ?_
  obtain ⟨r1, h1, h⟩ := bnd h
  refine a_callVi K (s_X6_save S  σ r1 h1) v_0 rfl rfl cw_X6_save ml_L_265 (by decide) rfl (rest := []) rfl (Nat.le_of_ble_eq_true rfl) (dq 1437 rfl) (by constructor <;> (simp only [rmk, room_1]; omega)) ?_
  refine a_aload_n K (dq 1438 rfl) rfl rfl ?_
  obtain ⟨r2, h2, h⟩ := bnd h
  refine a_callVi K (s_X7_save S  r1.2 r2 h2) v_20 rfl rfl cw_X7_save ml_L_268 (by decide) rfl (rest := [.int r1.1]) rfl (Nat.le_of_ble_eq_true rfl) (dq 1439 rfl) (by constructor <;> (simp only [rmk, room_1]; omega)) ?_
  refine a_icmp_eq K (tgt := 2476) (dq 1440 rfl) rfl (fun c3 => ?_) (fun c3 => ?_)
  · have h := ite_t c3 h
    obtain rfl := Option.some.inj h
    refine a_le2 (ls' := [some (.ref b), some (.ref (ρ 0 0)), some (.ref (ρ 20 0)), some (.ref (ρ 30 0)), some (.ref (ρ 31 0)), some (.int i), none, none, none]) ⟨rfl, rfl, rfl, rfl, rfl, rfl, trivial⟩ ?_
    exact hk _ _ (by simp only [rmk]; omega) (by simp only [rmk]; omega)
  · have h := ite_f c3 h
    refine a_iconst K (dq 1441 rfl) (v := 0) rfl ?_
    cases h
def p_lc_38 (xs : Nat → Int32) (L : Nat) (i : Int32) (σ : Sg) : Option Sg := (p_L_restore  σ).bind fun r1 => (p_X7_restore  r1.2).bind fun r2 => (p_X7_thrown  r2.2).bind fun r3 => if r3 = r1.1 then (if r1.1 = 0 then (if (lg_cmp (gL r2.2) r2.1.toInt64) = 0 then (some r2.2) else (none)) else (some r2.2)) else (none)
set_option maxRecDepth 20000 in
set_option maxHeartbeats 1000000 in
theorem s_lc_38 {l : Launch} {D : va_G} {ty : Nat → ClassId} {ρ : Nat → Nat → Nat} {N0 : Nat} (S : St l ty ρ N0) {xs : Nat → Int32} {L b : Nat} (i : Int32) (σ σ9 : Sg) (h : p_lc_38 xs L i σ = some σ9) {p : Program} {e : Env} {s : State} {m : MethodId} {args : Array Value} {below : List Frame} {meth : Method} {c : Code} {Q : State → Prop} (K : Cx p l s m args meth c code 9 RL ret D ty ρ N0) (hX : va_X b L xs s s.heap) (hbl : b < s.heap.size) (hbA : ¬ N0 ≤ b) {cs ss : Nat} (hcs : cs + 20 ≤ 603072) (hss : ss + 120 ≤ 7207018) (hk : ∀ c9 s9, c9 ≤ cs + 20 → s9 ≤ ss + 120 → WA p l e room_1 s m args below meth c D ty ρ N0 9 Q 2476 [some (.ref b), some (.ref (ρ 0 0)), some (.ref (ρ 20 0)), some (.ref (ρ 30 0)), some (.ref (ρ 31 0)), some (.int i), none, none, none] [] σ9 c9 s9) : WA p l e room_1 s m args below meth c D ty ρ N0 9 Q 2432 [some (.ref b), some (.ref (ρ 0 0)), some (.ref (ρ 20 0)), some (.ref (ρ 30 0)), some (.ref (ρ 31 0)), some (.int i), none, none, none] [] σ cs ss := by
  have dq := @tat _ _ dt_law
  unfold p_lc_38 at h
  refine a_aload_n K (dq 1443 rfl) rfl rfl ?_
  refine a_aload_n K (dq 1444 rfl) rfl rfl ?_
  obtain ⟨r1, h1, h⟩ := bnd h
  refine a_callH K (s_L_restore S  σ r1 h1) cw_L_restore mh_L_269 (by decide) rfl (rest := []) rfl (Nat.le_of_ble_eq_true rfl) (dq 1445 rfl) (by constructor <;> (simp only [rmk, room_1]; omega)) ?_
  refine a_istore K (dq 1446 rfl) (Nat.le_of_ble_eq_true rfl) (ls' := [some (.ref b), some (.ref (ρ 0 0)), some (.ref (ρ 20 0)), some (.ref (ρ 30 0)), some (.ref (ρ 31 0)), some (.int i), some (.int r1.1), none, none]) rfl ?_
  refine a_aload_n K (dq 1447 rfl) rfl rfl ?_
  obtain ⟨r2, h2, h⟩ := bnd h
  refine a_callVi K (s_X7_restore S  r1.2 r2 h2) v_20 rfl rfl cw_X7_restore ml_L_271 (by decide) rfl (rest := []) rfl (Nat.le_of_ble_eq_true rfl) (dq 1448 rfl) (by constructor <;> (simp only [rmk, room_1]; omega)) ?_
  refine a_istore K (dq 1449 rfl) (Nat.le_of_ble_eq_true rfl) (ls' := [some (.ref b), some (.ref (ρ 0 0)), some (.ref (ρ 20 0)), some (.ref (ρ 30 0)), some (.ref (ρ 31 0)), some (.int i), some (.int r1.1), some (.int r2.1), none]) rfl ?_
  refine a_aload_n K (dq 1450 rfl) rfl rfl ?_
  obtain ⟨r3, h3, h⟩ := bnd h
  refine a_callVi K (s_X7_thrown S  r2.2 r3 h3) v_20 rfl rfl cw_X7_thrown ml_L_147 (by decide) rfl (rest := []) rfl (Nat.le_of_ble_eq_true rfl) (dq 1451 rfl) (by constructor <;> (simp only [rmk, room_1]; omega)) ?_
  refine a_iload K (dq 1452 rfl) rfl ?_
  refine a_icmp_eq K (tgt := 2456) (dq 1453 rfl) rfl (fun c4 => ?_) (fun c4 => ?_)
  · have h := ite_t c4 h
    refine a_iload K (dq 1456 rfl) rfl ?_
    refine a_if_ne K (tgt := 2473) (dq 1457 rfl) rfl (fun c5 => ?_) (fun c5 => ?_)
    · have h := ite_f c5 h
      refine a_goto K (tgt := 2476) (dq 1467 rfl) rfl ?_
      obtain rfl := Option.some.inj h
      refine a_le2 (ls' := [some (.ref b), some (.ref (ρ 0 0)), some (.ref (ρ 20 0)), some (.ref (ρ 30 0)), some (.ref (ρ 31 0)), some (.int i), none, none, none]) ⟨rfl, rfl, rfl, rfl, rfl, rfl, trivial⟩ ?_
      exact hk _ _ (by simp only [rmk]; omega) (by simp only [rmk]; omega)
    · have h := ite_t c5 h
      refine a_aload_n K (dq 1458 rfl) rfl rfl ?_
      refine a_iconst K (dq 1459 rfl) (v := 0) rfl ?_
      refine a_lald K (dq 1460 rfl) ?_
      refine a_iload K (dq 1461 rfl) rfl ?_
      refine a_i2l K (dq 1462 rfl) ?_
      refine a_lcmp K (dq 1463 rfl) ?_
      refine a_if_eq K (tgt := 2473) (dq 1464 rfl) rfl (fun c6 => ?_) (fun c6 => ?_)
      · have h := ite_t c6 h
        refine a_goto K (tgt := 2476) (dq 1467 rfl) rfl ?_
        obtain rfl := Option.some.inj h
        refine a_le2 (ls' := [some (.ref b), some (.ref (ρ 0 0)), some (.ref (ρ 20 0)), some (.ref (ρ 30 0)), some (.ref (ρ 31 0)), some (.int i), none, none, none]) ⟨rfl, rfl, rfl, rfl, rfl, rfl, trivial⟩ ?_
        exact hk _ _ (by simp only [rmk]; omega) (by simp only [rmk]; omega)
      · have h := ite_f c6 h
        refine a_iconst K (dq 1465 rfl) (v := 0) rfl ?_
        cases h
  · have h := ite_f c4 h
    refine a_iconst K (dq 1454 rfl) (v := 0) rfl ?_
    cases h
