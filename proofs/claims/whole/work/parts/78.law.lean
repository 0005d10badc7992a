/-! the law as a table; at the places of ma_hs it calls its own two helpers -/
def me_Law_law : ma_M := (⟨"StrandArchiveLaw", "law", "([I)Z"⟩, code, 7, some .boolean, 10, 601024, 7293034)
def pr_Law_law : List ma_E := [(0, 3, .new 8, [6, 10, 56, 57, 40]),
  (3, 1, .dup, []),
  (4, 3, .invokespecial 19, [101, 0, 0, 58, 59, 40]),
  (7, 1, .astore_n 1, []),
  (8, 3, .new 20, [7, 22, 605, 606, 47]),
  (11, 1, .dup, []),
  (12, 3, .invokespecial 22, [88, 0, 0, 607, 608, 47]),
  (15, 1, .astore_n 2, []),
  (16, 1, .iconst 1, [1, 0]),
  (17, 2, .newarray .long, [811]),
  (19, 1, .astore_n 3, []),
  (20, 1, .iconst 0, [0, 0]),
  (21, 2, .istore 4, []),
  (23, 2, .iload 4, []),
  (25, 1, .aload_n 0, []),
  (26, 1, .arraylength, [9]),
  (27, 2, .bipush 6, [6, 0]),
  (29, 1, .isub, []),
  (30, 3, .if_icmp .gt (675), [434]),
  (33, 1, .aload_n 0, []),
  (34, 2, .iload 4, []),
  (36, 1, .iaload, [9]),
  (37, 2, .bipush 15, [15, 0]),
  (39, 1, .iand, []),
  (40, 76, .tableswitch 659 0 14 #[76, 113, 138, 175, 186, 211, 248, 297, 410, 435, 448, 473, 529, 554, 622], [432, 25, 52, 69, 96, 101, 118, 145, 182, 267, 284, 291, 308, 343, 360, 405]),
  (116, 1, .aload_n 1, []),
  (117, 1, .aload_n 0, []),
  (118, 2, .iload 4, []),
  (120, 1, .iconst 1, [1, 0]),
  (121, 1, .iadd, []),
  (122, 1, .iaload, [9]),
  (123, 1, .aload_n 0, []),
  (124, 2, .iload 4, []),
  (126, 1, .iconst 2, [2, 0]),
  (127, 1, .iadd, []),
  (128, 1, .iaload, [9]),
  (129, 3, .invokevirtual 23, [22, 2, 6, 0, 253, 254, 255, 40]),
  (132, 1, .aload_n 2, []),
  (133, 1, .aload_n 0, []),
  (134, 2, .iload 4, []),
  (136, 1, .iconst 1, [1, 0]),
  (137, 1, .iadd, []),
  (138, 1, .iaload, [9]),
  (139, 1, .aload_n 0, []),
  (140, 2, .iload 4, []),
  (142, 1, .iconst 2, [2, 0]),
  (143, 1, .iadd, []),
  (144, 1, .iaload, [9]),
  (145, 3, .invokevirtual 27, [69, 2, 7, 0, 696, 697, 698, 47]),
  (148, 3, .if_icmp .eq (551), [432]),
  (151, 1, .iconst 0, [0, 0]),
  (152, 1, .ireturn, [1]),
  (153, 1, .aload_n 1, []),
  (154, 1, .aload_n 0, []),
  (155, 2, .iload 4, []),
  (157, 1, .iconst 1, [1, 0]),
  (158, 1, .iadd, []),
  (159, 1, .iaload, [9]),
  (160, 3, .invokevirtual 28, [105, 1, 6, 0, 257, 258, 259, 40]),
  (163, 1, .aload_n 2, []),
  (164, 1, .aload_n 0, []),
  (165, 2, .iload 4, []),
  (167, 1, .iconst 1, [1, 0]),
  (168, 1, .iadd, []),
  (169, 1, .iaload, [9]),
  (170, 3, .invokevirtual 31, [93, 1, 7, 0, 703, 704, 705, 47]),
  (173, 3, .if_icmp .eq (526), [432]),
  (176, 1, .iconst 0, [0, 0]),
  (177, 1, .ireturn, [1]),
  (178, 1, .aload_n 1, []),
  (179, 1, .aload_n 0, []),
  (180, 2, .iload 4, []),
  (182, 1, .iconst 1, [1, 0]),
  (183, 1, .iadd, []),
  (184, 1, .iaload, [9]),
  (185, 1, .aload_n 0, []),
  (186, 2, .iload 4, []),
  (188, 1, .iconst 2, [2, 0]),
  (189, 1, .iadd, []),
  (190, 1, .iaload, [9]),
  (191, 3, .invokevirtual 32, [59, 2, 6, 0, 381, 382, 383, 40]),
  (194, 1, .aload_n 2, []),
  (195, 1, .aload_n 0, []),
  (196, 2, .iload 4, []),
  (198, 1, .iconst 1, [1, 0]),
  (199, 1, .iadd, []),
  (200, 1, .iaload, [9]),
  (201, 1, .aload_n 0, []),
  (202, 2, .iload 4, []),
  (204, 1, .iconst 2, [2, 0]),
  (205, 1, .iadd, []),
  (206, 1, .iaload, [9]),
  (207, 3, .invokevirtual 35, [68, 2, 7, 0, 724, 725, 726, 47]),
  (210, 3, .if_icmp .eq (489), [432]),
  (213, 1, .iconst 0, [0, 0]),
  (214, 1, .ireturn, [1]),
  (215, 1, .aload_n 1, []),
  (216, 3, .invokevirtual 36, [16, 0, 6, 0, 394, 395, 396, 40]),
  (219, 1, .aload_n 2, []),
  (220, 3, .invokevirtual 39, [25, 0, 7, 0, 728, 729, 730, 47]),
  (223, 3, .goto (476), [432]),
  (226, 1, .aload_n 1, []),
  (227, 1, .aload_n 0, []),
  (228, 2, .iload 4, []),
  (230, 1, .iconst 1, [1, 0]),
  (231, 1, .iadd, []),
  (232, 1, .iaload, [9]),
  (233, 3, .invokevirtual 40, [61, 1, 6, 0, 398, 399, 400, 40]),
  (236, 1, .aload_n 2, []),
  (237, 1, .aload_n 0, []),
  (238, 2, .iload 4, []),
  (240, 1, .iconst 1, [1, 0]),
  (241, 1, .iadd, []),
  (242, 1, .iaload, [9]),
  (243, 3, .invokevirtual 44, [90, 1, 7, 0, 732, 733, 734, 47]),
  (246, 3, .if_icmp .eq (453), [432]),
  (249, 1, .iconst 0, [0, 0]),
  (250, 1, .ireturn, [1]),
  (251, 1, .aload_n 1, []),
  (252, 1, .aload_n 0, []),
  (253, 2, .iload 4, []),
  (255, 1, .iconst 1, [1, 0]),
  (256, 1, .iadd, []),
  (257, 1, .iaload, [9]),
  (258, 1, .aload_n 0, []),
  (259, 2, .iload 4, []),
  (261, 1, .iconst 2, [2, 0]),
  (262, 1, .iadd, []),
  (263, 1, .iaload, [9]),
  (264, 3, .invokevirtual 45, [86, 2, 6, 0, 410, 411, 412, 40]),
  (267, 1, .aload_n 2, []),
  (268, 1, .aload_n 0, []),
  (269, 2, .iload 4, []),
  (271, 1, .iconst 1, [1, 0]),
  (272, 1, .iadd, []),
  (273, 1, .iaload, [9]),
  (274, 1, .aload_n 0, []),
  (275, 2, .iload 4, []),
  (277, 1, .iconst 2, [2, 0]),
  (278, 1, .iadd, []),
  (279, 1, .iaload, [9]),
  (280, 3, .invokevirtual 48, [91, 2, 7, 0, 740, 741, 742, 47]),
  (283, 3, .if_icmp .eq (416), [432]),
  (286, 1, .iconst 0, [0, 0]),
  (287, 1, .ireturn, [1]),
  (288, 1, .aload_n 1, []),
  (289, 1, .aload_n 0, []),
  (290, 2, .iload 4, []),
  (292, 1, .iconst 1, [1, 0]),
  (293, 1, .iadd, []),
  (294, 1, .iaload, [9]),
  (295, 1, .aload_n 0, []),
  (296, 2, .iload 4, []),
  (298, 1, .iconst 2, [2, 0]),
  (299, 1, .iadd, []),
  (300, 1, .iaload, [9]),
  (301, 1, .aload_n 0, []),
  (302, 2, .iload 4, []),
  (304, 1, .iconst 3, [3, 0]),
  (305, 1, .iadd, []),
  (306, 1, .iaload, [9]),
  (307, 3, .invokevirtual 49, [87, 3, 6, 0, 420, 421, 422, 40]),
  (310, 1, .aload_n 2, []),
  (311, 1, .aload_n 0, []),
  (312, 2, .iload 4, []),
  (314, 1, .iconst 1, [1, 0]),
  (315, 1, .iadd, []),
  (316, 1, .iaload, [9]),
  (317, 1, .aload_n 0, []),
  (318, 2, .iload 4, []),
  (320, 1, .iconst 2, [2, 0]),
  (321, 1, .iadd, []),
  (322, 1, .iaload, [9]),
  (323, 1, .aload_n 0, []),
  (324, 2, .iload 4, []),
  (326, 1, .iconst 3, [3, 0]),
  (327, 1, .iadd, []),
  (328, 1, .iaload, [9]),
  (329, 3, .invokevirtual 53, [92, 3, 7, 0, 744, 745, 746, 47]),
  (332, 3, .if_icmp .eq (367), [432]),
  (335, 1, .iconst 0, [0, 0]),
  (336, 1, .ireturn, [1]),
  (337, 1, .aload_n 1, []),
  (338, 1, .aload_n 0, []),
  (339, 2, .iload 4, []),
  (341, 1, .iconst 1, [1, 0]),
  (342, 1, .iadd, []),
  (343, 1, .iaload, [9]),
  (344, 1, .i2l, []),
  (345, 2, .bipush 32, [32, 0]),
  (347, 1, .lshl, []),
  (348, 1, .aload_n 0, []),
  (349, 2, .iload 4, []),
  (351, 1, .iconst 2, [2, 0]),
  (352, 1, .iadd, []),
  (353, 1, .iaload, [9]),
  (354, 1, .i2l, []),
  (355, 3, .ldc2_w 54, [4294967295, 0, 810]),
  (358, 1, .land, []),
  (359, 1, .lor, []),
  (360, 1, .aload_n 0, []),
  (361, 2, .iload 4, []),
  (363, 1, .iconst 3, [3, 0]),
  (364, 1, .iadd, []),
  (365, 1, .iaload, [9]),
  (366, 1, .i2l, []),
  (367, 2, .bipush 32, [32, 0]),
  (369, 1, .lshl, []),
  (370, 1, .aload_n 0, []),
  (371, 2, .iload 4, []),
  (373, 1, .iconst 4, [4, 0]),
  (374, 1, .iadd, []),
  (375, 1, .iaload, [9]),
  (376, 1, .i2l, []),
  (377, 3, .ldc2_w 54, [4294967295, 0, 810]),
  (380, 1, .land, []),
  (381, 1, .lor, []),
  (382, 1, .aload_n 0, []),
  (383, 2, .iload 4, []),
  (385, 1, .iconst 5, [5, 0]),
  (386, 1, .iadd, []),
  (387, 1, .iaload, [9]),
  (388, 3, .invokevirtual 56, [58, 3, 6, 0, 424, 425, 426, 40]),
  (391, 1, .aload_n 2, []),
  (392, 1, .aload_n 0, []),
  (393, 2, .iload 4, []),
  (395, 1, .iconst 1, [1, 0]),
  (396, 1, .iadd, []),
  (397, 1, .iaload, [9]),
  (398, 1, .i2l, []),
  (399, 2, .bipush 32, [32, 0]),
  (401, 1, .lshl, []),
  (402, 1, .aload_n 0, []),
  (403, 2, .iload 4, []),
  (405, 1, .iconst 2, [2, 0]),
  (406, 1, .iadd, []),
  (407, 1, .iaload, [9]),
  (408, 1, .i2l, []),
  (409, 3, .ldc2_w 54, [4294967295, 0, 810]),
  (412, 1, .land, []),
  (413, 1, .lor, []),
  (414, 1, .aload_n 0, []),
  (415, 2, .iload 4, []),
  (417, 1, .iconst 3, [3, 0]),
  (418, 1, .iadd, []),
  (419, 1, .iaload, [9]),
  (420, 1, .i2l, []),
  (421, 2, .bipush 32, [32, 0]),
  (423, 1, .lshl, []),
  (424, 1, .aload_n 0, []),
  (425, 2, .iload 4, []),
  (427, 1, .iconst 4, [4, 0]),
  (428, 1, .iadd, []),
  (429, 1, .iaload, [9]),
  (430, 1, .i2l, []),
  (431, 3, .ldc2_w 54, [4294967295, 0, 810]),
  (434, 1, .land, []),
  (435, 1, .lor, []),
  (436, 1, .aload_n 0, []),
  (437, 2, .iload 4, []),
  (439, 1, .iconst 5, [5, 0]),
  (440, 1, .iadd, []),
  (441, 1, .iaload, [9]),
  (442, 3, .invokevirtual 60, [64, 3, 7, 0, 748, 749, 750, 47]),
  (445, 3, .if_icmp .eq (254), [432]),
  (448, 1, .iconst 0, [0, 0]),
  (449, 1, .ireturn, [1]),
  (450, 1, .aload_n 1, []),
  (451, 1, .aload_n 0, []),
  (452, 2, .iload 4, []),
  (454, 1, .iconst 1, [1, 0]),
  (455, 1, .iadd, []),
  (456, 1, .iaload, [9]),
  (457, 3, .invokevirtual 61, [24, 1, 6, 0, 428, 429, 430, 40]),
  (460, 1, .aload_n 2, []),
  (461, 1, .aload_n 0, []),
  (462, 2, .iload 4, []),
  (464, 1, .iconst 1, [1, 0]),
  (465, 1, .iadd, []),
  (466, 1, .iaload, [9]),
  (467, 3, .invokevirtual 64, [32, 1, 7, 0, 753, 754, 755, 47]),
  (470, 3, .if_icmp .eq (229), [432]),
  (473, 1, .iconst 0, [0, 0]),
  (474, 1, .ireturn, [1]),
  (475, 1, .aload_n 1, []),
  (476, 3, .invokevirtual 65, [18, 0, 6, 0, 435, 436, 437, 40]),
  (479, 1, .aload_n 2, []),
  (480, 3, .invokevirtual 69, [28, 0, 7, 0, 761, 762, 763, 47]),
  (483, 3, .if_icmp .eq (216), [432]),
  (486, 1, .iconst 0, [0, 0]),
  (487, 1, .ireturn, [1]),
  (488, 1, .aload_n 1, []),
  (489, 1, .aload_n 0, []),
  (490, 2, .iload 4, []),
  (492, 1, .iconst 1, [1, 0]),
  (493, 1, .iadd, []),
  (494, 1, .iaload, [9]),
  (495, 3, .invokevirtual 70, [106, 1, 6, 0, 439, 440, 441, 40]),
  (498, 1, .aload_n 2, []),
  (499, 1, .aload_n 0, []),
  (500, 2, .iload 4, []),
  (502, 1, .iconst 1, [1, 0]),
  (503, 1, .iadd, []),
  (504, 1, .iaload, [9]),
  (505, 3, .invokevirtual 73, [103, 1, 7, 0, 765, 766, 767, 47]),
  (508, 3, .if_icmp .eq (191), [432]),
  (511, 1, .iconst 0, [0, 0]),
  (512, 1, .ireturn, [1]),
  (513, 1, .aload_n 1, []),
  (514, 1, .aload_n 0, []),
  (515, 2, .iload 4, []),
  (517, 1, .iconst 1, [1, 0]),
  (518, 1, .iadd, []),
  (519, 1, .iaload, [9]),
  (520, 1, .aload_n 3, []),
  (521, 3, .invokestatic 74, []),
  (524, 2, .istore 5, []),
  (526, 1, .aload_n 2, []),
  (527, 1, .aload_n 0, []),
  (528, 2, .iload 4, []),
  (530, 1, .iconst 1, [1, 0]),
  (531, 1, .iadd, []),
  (532, 1, .iaload, [9]),
  (533, 3, .invokevirtual 79, [70, 1, 7, 0, 798, 799, 800, 47]),
  (536, 2, .istore 6, []),
  (538, 1, .aload_n 2, []),
  (539, 3, .invokevirtual 80, [35, 0, 7, 0, 688, 689, 690, 47]),
  (542, 2, .iload 5, []),
  (544, 3, .if_icmp .eq (5), [331]),
  (547, 1, .iconst 0, [0, 0]),
  (548, 1, .ireturn, [1]),
  (549, 2, .iload 5, []),
  (551, 3, .ifCond .ne (15), [342]),
  (554, 1, .aload_n 3, []),
  (555, 1, .iconst 0, [0, 0]),
  (556, 1, .laload, []),
  (557, 2, .iload 6, []),
  (559, 1, .i2l, []),
  (560, 1, .lcmp, []),
  (561, 3, .ifCond .eq (5), [342]),
  (564, 1, .iconst 0, [0, 0]),
  (565, 1, .ireturn, [1]),
  (566, 3, .goto (133), [432]),
  (569, 1, .aload_n 1, []),
  (570, 1, .aload_n 0, []),
  (571, 2, .iload 4, []),
  (573, 1, .iconst 1, [1, 0]),
  (574, 1, .iadd, []),
  (575, 1, .iaload, [9]),
  (576, 3, .invokevirtual 83, [17, 1, 6, 0, 520, 521, 522, 40]),
  (579, 1, .aload_n 2, []),
  (580, 1, .aload_n 0, []),
  (581, 2, .iload 4, []),
  (583, 1, .iconst 1, [1, 0]),
  (584, 1, .iadd, []),
  (585, 1, .iaload, [9]),
  (586, 3, .invokevirtual 86, [26, 1, 7, 0, 802, 803, 804, 47]),
  (589, 3, .if_icmp .eq (110), [432]),
  (592, 1, .iconst 0, [0, 0]),
  (593, 1, .ireturn, [1]),
  (594, 1, .aload_n 1, []),
  (595, 1, .aload_n 0, []),
  (596, 2, .iload 4, []),
  (598, 1, .iconst 1, [1, 0]),
  (599, 1, .iadd, []),
  (600, 1, .iaload, [9]),
  (601, 1, .aload_n 0, []),
  (602, 2, .iload 4, []),
  (604, 1, .iconst 2, [2, 0]),
  (605, 1, .iadd, []),
  (606, 1, .iaload, [9]),
  (607, 1, .aload_n 3, []),
  (608, 3, .invokestatic 87, []),
  (611, 2, .istore 5, []),
  (613, 1, .aload_n 2, []),
  (614, 1, .aload_n 0, []),
  (615, 2, .iload 4, []),
  (617, 1, .iconst 1, [1, 0]),
  (618, 1, .iadd, []),
  (619, 1, .iaload, [9]),
  (620, 1, .aload_n 0, []),
  (621, 2, .iload 4, []),
  (623, 1, .iconst 2, [2, 0]),
  (624, 1, .iadd, []),
  (625, 1, .iaload, [9]),
  (626, 3, .invokevirtual 90, [62, 2, 7, 0, 806, 807, 808, 47]),
  (629, 2, .istore 6, []),
  (631, 1, .aload_n 2, []),
  (632, 3, .invokevirtual 80, [35, 0, 7, 0, 688, 689, 690, 47]),
  (635, 2, .iload 5, []),
  (637, 3, .if_icmp .eq (5), [393]),
  (640, 1, .iconst 0, [0, 0]),
  (641, 1, .ireturn, [1]),
  (642, 2, .iload 5, []),
  (644, 3, .ifCond .ne (15), [404]),
  (647, 1, .aload_n 3, []),
  (648, 1, .iconst 0, [0, 0]),
  (649, 1, .laload, []),
  (650, 2, .iload 6, []),
  (652, 1, .i2l, []),
  (653, 1, .lcmp, []),
  (654, 3, .ifCond .eq (5), [404]),
  (657, 1, .iconst 0, [0, 0]),
  (658, 1, .ireturn, [1]),
  (659, 3, .goto (40), [432]),
  (662, 1, .aload_n 1, []),
  (663, 1, .aload_n 0, []),
  (664, 2, .iload 4, []),
  (666, 1, .iconst 1, [1, 0]),
  (667, 1, .iadd, []),
  (668, 1, .iaload, [9]),
  (669, 1, .aload_n 0, []),
  (670, 2, .iload 4, []),
  (672, 1, .iconst 2, [2, 0]),
  (673, 1, .iadd, []),
  (674, 1, .iaload, [9]),
  (675, 3, .invokevirtual 91, [60, 2, 6, 0, 524, 525, 526, 40]),
  (678, 1, .aload_n 2, []),
  (679, 1, .aload_n 0, []),
  (680, 2, .iload 4, []),
  (682, 1, .iconst 1, [1, 0]),
  (683, 1, .iadd, []),
  (684, 1, .iaload, [9]),
  (685, 1, .aload_n 0, []),
  (686, 2, .iload 4, []),
  (688, 1, .iconst 2, [2, 0]),
  (689, 1, .iadd, []),
  (690, 1, .iaload, [9]),
  (691, 3, .invokevirtual 94, [72, 2, 7, 0, 692, 693, 694, 47]),
  (694, 3, .if_icmp .eq (5), [432]),
  (697, 1, .iconst 0, [0, 0]),
  (698, 1, .ireturn, [1]),
  (699, 3, .iinc 4 (6), [6, 0]),
  (702, 3, .goto (-679), [13]),
  (705, 1, .iconst 1, [1, 0]),
  (706, 1, .ireturn, [1])]
def ma_hs : List Nat := [315, 372]
def ma_okH (mi : ma_M) (P : List ma_E) (hs : List Nat) : Prop := ∀ k en, P[k]? = some en → k ∉ hs → ma_ok1 mi P k en = true
def ma_okHb (mi : ma_M) (P : List ma_E) (hs : List Nat) : Bool := (List.range P.length).all (fun k => decide (k ∈ hs) || (match P[k]? with
  | some en => ma_ok1 mi P k en
  | none => true))
theorem ma_okH_of {mi : ma_M} {P : List ma_E} {hs : List Nat} (h : ma_okHb mi P hs = true) : ma_okH mi P hs := by
  intro k en hk hn
  have h1 := List.all_eq_true.mp h k (List.mem_range.mpr (List.getElem?_eq_some_iff.mp hk).1)
  rw [hk] at h1
  simpa [hn] using h1
theorem ma_soundH {hs : List Nat} {l : Launch} {g : ma_G} {x : Bool} {scr : Option (Nat × (Nat → Int32))} {mi : ma_M} {P : List ma_E} {Q : ma_P} {K : ma_K} {k : Nat} {ls : List (Option Value)} {st : List Value} {c sl : Nat} {S : ma_S} {h : ma_H} (hok : ma_okH mi P hs) (hk0 : k ∉ hs)
    (hK : ∀ k ls st c sl S h, K k ls st c sl S h → ma_J l g x scr mi P Q k ls st c sl S h) (hx : ma_go x scr mi.2.2.2.2.2.1 mi.2.2.2.2.2.2 (ma_or l g x) P Q K k ls st c sl S h) : ma_J l g x scr mi P Q k ls st c sl S h := by
  intro p e s m args below meth cd H locs la pc hB hw hL hpc
  unfold ma_go at hx
  split at hx
  · rename_i en hen
    have h1 := hok k en hen hk0
    obtain ⟨pc', len, ins, aux⟩ := en
    have hpc' : pc' = pc := by
      rw [ma_pcAt, hen] at hpc
      exact Option.some.inj hpc
    subst hpc'
    unfold ma_ok1 at h1
    simp only [Bool.and_eq_true] at h1
    obtain ⟨⟨⟨hd, hlen⟩, hnx⟩, ho⟩ := h1
    have hd := of_decide_eq_true hd
    dsimp only at hd hlen hnx ho hx
    have key : ma_Snd ins aux → len = ma_len ins → ma_W l g x mi Q p e s m args below meth cd H locs c sl pc' la (st.map (ma_tv g)) := by
      intro hS hl
      subst hl
      exact hS hK hd (fun ht => by rw [if_pos ht] at hnx; exact of_decide_eq_true hnx) ho hx hB hw hL
    cases ins
    case iconst => exact key (ma_s_iconst _ aux) (of_decide_eq_true hlen)
    case bipush => exact key (ma_s_bipush _ aux) (of_decide_eq_true hlen)
    case sipush => exact key (ma_s_sipush _ aux) (of_decide_eq_true hlen)
    case ldc => exact key (ma_s_ldc _ aux) (of_decide_eq_true hlen)
    case ldc_w => exact key (ma_s_ldcw _ aux) (of_decide_eq_true hlen)
    case ldc2_w => exact key (ma_s_ldc2 _ aux) (of_decide_eq_true hlen)
    case lconst => exact key (ma_s_lconst _ aux) (of_decide_eq_true hlen)
    case iload => exact key (ma_s_iload _ aux) (of_decide_eq_true hlen)
    case iload_n => exact key (ma_s_iload_n _ aux) (of_decide_eq_true hlen)
    case lload => exact key (ma_s_lload _ aux) (of_decide_eq_true hlen)
    case lload_n => exact key (ma_s_lload_n _ aux) (of_decide_eq_true hlen)
    case aload => exact key (ma_s_aload _ aux) (of_decide_eq_true hlen)
    case aload_n => exact key (ma_s_aload_n _ aux) (of_decide_eq_true hlen)
    case istore => exact key (ma_s_istore _ aux) (of_decide_eq_true hlen)
    case istore_n => exact key (ma_s_istore_n _ aux) (of_decide_eq_true hlen)
    case lstore => exact key (ma_s_lstore _ aux) (of_decide_eq_true hlen)
    case lstore_n => exact key (ma_s_lstore_n _ aux) (of_decide_eq_true hlen)
    case astore => exact key (ma_s_astore _ aux) (of_decide_eq_true hlen)
    case astore_n => exact key (ma_s_astore_n _ aux) (of_decide_eq_true hlen)
    case iinc => exact key (ma_s_iinc _ _ aux) (of_decide_eq_true hlen)
    case goto => exact key (ma_s_goto _ aux) (of_decide_eq_true hlen)
    case if_icmp => exact key (ma_s_icmp _ _ aux) (of_decide_eq_true hlen)
    case ifCond => exact key (ma_s_if _ _ aux) (of_decide_eq_true hlen)
    case getfield => exact key (ma_s_getfield _ aux) (of_decide_eq_true hlen)
    case putfield => exact key (ma_s_putfield _ aux) (of_decide_eq_true hlen)
    case new => exact key (ma_s_new _ aux) (of_decide_eq_true hlen)
    case newarray => exact key (ma_s_newarray _ aux) (of_decide_eq_true hlen)
    case anewarray => exact key (ma_s_anewarray _ aux) (of_decide_eq_true hlen)
    case invokevirtual => exact key (ma_s_invokevirtual _ aux) (of_decide_eq_true hlen)
    case iadd => exact key (ma_s_iadd aux) (of_decide_eq_true hlen)
    case isub => exact key (ma_s_isub aux) (of_decide_eq_true hlen)
    case imul => exact key (ma_s_imul aux) (of_decide_eq_true hlen)
    case iand => exact key (ma_s_iand aux) (of_decide_eq_true hlen)
    case ior => exact key (ma_s_ior aux) (of_decide_eq_true hlen)
    case ixor => exact key (ma_s_ixor aux) (of_decide_eq_true hlen)
    case idiv => exact key (ma_s_idiv aux) (of_decide_eq_true hlen)
    case irem => exact key (ma_s_irem aux) (of_decide_eq_true hlen)
    case ishl => exact key (ma_s_ishl aux) (of_decide_eq_true hlen)
    case ishr => exact key (ma_s_ishr aux) (of_decide_eq_true hlen)
    case iushr => exact key (ma_s_iushr aux) (of_decide_eq_true hlen)
    case ladd => exact key (ma_s_ladd aux) (of_decide_eq_true hlen)
    case lmul => exact key (ma_s_lmul aux) (of_decide_eq_true hlen)
    case land => exact key (ma_s_land aux) (of_decide_eq_true hlen)
    case lor => exact key (ma_s_lor aux) (of_decide_eq_true hlen)
    case ldiv => exact key (ma_s_ldiv aux) (of_decide_eq_true hlen)
    case lrem => exact key (ma_s_lrem aux) (of_decide_eq_true hlen)
    case lcmp => exact key (ma_s_lcmp aux) (of_decide_eq_true hlen)
    case lshl => exact key (ma_s_lshl aux) (of_decide_eq_true hlen)
    case lushr => exact key (ma_s_lushr aux) (of_decide_eq_true hlen)
    case i2l => exact key (ma_s_i2l aux) (of_decide_eq_true hlen)
    case l2i => exact key (ma_s_l2i aux) (of_decide_eq_true hlen)
    case i2b => exact key (ma_s_i2b aux) (of_decide_eq_true hlen)
    case dup => exact key (ma_s_dup aux) (of_decide_eq_true hlen)
    case dup2 => exact key (ma_s_dup2 aux) (of_decide_eq_true hlen)
    case pop => exact key (ma_s_pop aux) (of_decide_eq_true hlen)
    case iaload => exact key (ma_s_iaload aux) (of_decide_eq_true hlen)
    case baload => exact key (ma_s_baload aux) (of_decide_eq_true hlen)
    case laload => exact key (ma_s_laload aux) (of_decide_eq_true hlen)
    case aaload => exact key (ma_s_aaload aux) (of_decide_eq_true hlen)
    case iastore => exact key (ma_s_iastore aux) (of_decide_eq_true hlen)
    case bastore => exact key (ma_s_bastore aux) (of_decide_eq_true hlen)
    case lastore => exact key (ma_s_lastore aux) (of_decide_eq_true hlen)
    case aastore => exact key (ma_s_aastore aux) (of_decide_eq_true hlen)
    case arraylength => exact key (ma_s_arraylength aux) (of_decide_eq_true hlen)
    case ireturn => exact key (ma_s_ireturn aux) (of_decide_eq_true hlen)
    case areturn => exact key (ma_s_areturn aux) (of_decide_eq_true hlen)
    case return_ => exact key (ma_s_return aux) (of_decide_eq_true hlen)
    case invokespecial =>
      by_cases ha : ma_a aux 0 = 0
      · exact key (ma_s_objinit _ aux ha) (of_decide_eq_true hlen)
      · exact key (ma_s_invokespecial _ aux ha) (of_decide_eq_true hlen)
    case invokestatic =>
      by_cases ha : ma_a aux 0 = 0
      · exact key (ma_s_arraycopy _ aux ha) (of_decide_eq_true hlen)
      · exact key (ma_s_invokestatic _ aux ha) (of_decide_eq_true hlen)
    case tableswitch => exact ma_s_tableswitch hK hd ho hx hB hw hL
    all_goals exact hx.elim
  · exact hx.elim
theorem ma_wp_JH {l : Launch} {g : ma_G} {x : Bool} {scr : Option (Nat × (Nat → Int32))} {mi : ma_M} {P : List ma_E} {Q : ma_P} {hs : List Nat} (hok : ma_okH mi P hs) (cuts : List Nat) (hcut : ∀ k, k ∈ hs → k ∈ cuts) : ∀ (n k : Nat) (ls : List (Option Value)) (st : List Value) (c sl : Nat) (S : ma_S) (h : ma_H), ma_wp x scr mi.2.2.2.2.2.1 mi.2.2.2.2.2.2 (ma_or l g x) P Q cuts (ma_J l g x scr mi P Q) n k ls st c sl S h → ma_J l g x scr mi P Q k ls st c sl S h
  | 0, _, _, _, _, _, _, _, hx => hx.elim
  | n + 1, k, ls, st, c, sl, S, h, hx => by
    rw [ma_wp] at hx
    split at hx
    · exact hx
    · rename_i hn
      exact ma_soundH hok (fun z => hn (hcut k z)) (ma_wp_JH hok cuts hcut n) hx
theorem ma_runH {l : Launch} {g : ma_G} {x : Bool} {scr : Option (Nat × (Nat → Int32))} {mi : ma_M} {P : List ma_E} {Q : ma_P} {hs : List Nat} {mc ms : Nat} (hok : ma_okH mi P hs) (h1 : mi.2.2.2.2.2.1 = mc) (h2 : mi.2.2.2.2.2.2 = ms) (cuts : List Nat) (hcut : ∀ k, k ∈ hs → k ∈ cuts) (n : Nat) {k : Nat} (hk : k ∉ hs) {ls : List (Option Value)} {st : List Value} {c sl : Nat} {S : ma_S} {h : ma_H} (hx : ma_go x scr mc ms (ma_or l g x) P Q (ma_wp x scr mc ms (ma_or l g x) P Q cuts (ma_J l g x scr mi P Q) n) k ls st c sl S h) : ma_J l g x scr mi P Q k ls st c sl S h := by
  subst h1
  subst h2
  exact ma_soundH hok hk (ma_wp_JH hok cuts hcut n) hx
def ma_okHc (mi : ma_M) (P : List ma_E) (hs : List Nat) (a n : Nat) : Bool := (List.range' a n).all (fun k => decide (k ∈ hs) || (match P[k]? with
  | some en => ma_ok1 mi P k en
  | none => true))
theorem ma_okHc_at {mi : ma_M} {P : List ma_E} {hs : List Nat} {a n : Nat} (h : ma_okHc mi P hs a n = true) {k : Nat} {en : ma_E} (h1 : a ≤ k) (h2 : k < a + n) (hk : P[k]? = some en) (hn : k ∉ hs) : ma_ok1 mi P k en = true := by
  have h1 := List.all_eq_true.mp h k (List.mem_range'_1.mpr ⟨h1, h2⟩)
  rw [hk] at h1
  simpa [hn] using h1
theorem po_Law_c0 : ma_okHc me_Law_law pr_Law_law ma_hs 0 55 = true := by decide +kernel
theorem po_Law_c1 : ma_okHc me_Law_law pr_Law_law ma_hs 55 55 = true := by decide +kernel
theorem po_Law_c2 : ma_okHc me_Law_law pr_Law_law ma_hs 110 55 = true := by decide +kernel
theorem po_Law_c3 : ma_okHc me_Law_law pr_Law_law ma_hs 165 55 = true := by decide +kernel
theorem po_Law_c4 : ma_okHc me_Law_law pr_Law_law ma_hs 220 55 = true := by decide +kernel
theorem po_Law_c5 : ma_okHc me_Law_law pr_Law_law ma_hs 275 55 = true := by decide +kernel
theorem po_Law_c6 : ma_okHc me_Law_law pr_Law_law ma_hs 330 55 = true := by decide +kernel
theorem po_Law_c7 : ma_okHc me_Law_law pr_Law_law ma_hs 385 51 = true := by decide +kernel
