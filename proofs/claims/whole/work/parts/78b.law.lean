/-! the law's table: its check as a whole, its rows -/
theorem po_Law_law : ma_okH me_Law_law pr_Law_law ma_hs := by
  intro k en hk hn
  have hl : k < pr_Law_law.length := (List.getElem?_eq_some_iff.mp hk).1
  rw [show pr_Law_law.length = 436 by decide +kernel] at hl
  by_cases z0 : k < 55
  · exact ma_okHc_at po_Law_c0 (by omega) (by omega) hk hn
  by_cases z1 : k < 110
  · exact ma_okHc_at po_Law_c1 (by omega) (by omega) hk hn
  by_cases z2 : k < 165
  · exact ma_okHc_at po_Law_c2 (by omega) (by omega) hk hn
  by_cases z3 : k < 220
  · exact ma_okHc_at po_Law_c3 (by omega) (by omega) hk hn
  by_cases z4 : k < 275
  · exact ma_okHc_at po_Law_c4 (by omega) (by omega) hk hn
  by_cases z5 : k < 330
  · exact ma_okHc_at po_Law_c5 (by omega) (by omega) hk hn
  by_cases z6 : k < 385
  · exact ma_okHc_at po_Law_c6 (by omega) (by omega) hk hn
  exact ma_okHc_at po_Law_c7 (by omega) (by omega) hk hn
section
variable {x : Bool} {mc ms : Nat} {O : ma_O} {k : Nat} {ls : List (Option Value)} {st : List Value} {c sl : Nat} {S : ma_S} {h : ma_H} {K : ma_K} {Q : ma_P} {n : Nat} {xs : Nat → Int32}
theorem ev_sld {i : Int32} {a : Nat} : ma_x x (some (n, xs)) mc ms O (.iaload) [9] k ls (.int i :: .ref a :: st) c sl S h K Q = (a = 1 ∧ vp_in i n ∧ K (k + 1) ls (.int (xs i.toNatClampNeg) :: st) c sl S h) := rfl
theorem ev_slen {a : Nat} : ma_x x (some (n, xs)) mc ms O (.arraylength) [9] k ls (.ref a :: st) c sl S h K Q = (a = 1 ∧ K (k + 1) ls (.int (nI n) :: st) c sl S h) := rfl
end
theorem pa_Law_law_0 : pr_Law_law[0]? = some (0, 3, .new 8, [6, 10, 56, 57, 40]) := rfl
theorem pa_Law_law_1 : pr_Law_law[1]? = some (3, 1, .dup, []) := rfl
theorem pa_Law_law_2 : pr_Law_law[2]? = some (4, 3, .invokespecial 19, [101, 0, 0, 58, 59, 40]) := rfl
theorem pa_Law_law_3 : pr_Law_law[3]? = some (7, 1, .astore_n 1, []) := rfl
theorem pa_Law_law_4 : pr_Law_law[4]? = some (8, 3, .new 20, [7, 22, 605, 606, 47]) := rfl
theorem pa_Law_law_5 : pr_Law_law[5]? = some (11, 1, .dup, []) := rfl
theorem pa_Law_law_6 : pr_Law_law[6]? = some (12, 3, .invokespecial 22, [88, 0, 0, 607, 608, 47]) := rfl
theorem pa_Law_law_7 : pr_Law_law[7]? = some (15, 1, .astore_n 2, []) := rfl
theorem pa_Law_law_8 : pr_Law_law[8]? = some (16, 1, .iconst 1, [1, 0]) := rfl
theorem pa_Law_law_9 : pr_Law_law[9]? = some (17, 2, .newarray .long, [811]) := rfl
theorem pa_Law_law_10 : pr_Law_law[10]? = some (19, 1, .astore_n 3, []) := rfl
theorem pa_Law_law_11 : pr_Law_law[11]? = some (20, 1, .iconst 0, [0, 0]) := rfl
theorem pa_Law_law_12 : pr_Law_law[12]? = some (21, 2, .istore 4, []) := rfl
theorem pa_Law_law_13 : pr_Law_law[13]? = some (23, 2, .iload 4, []) := rfl
theorem pa_Law_law_14 : pr_Law_law[14]? = some (25, 1, .aload_n 0, []) := rfl
theorem pa_Law_law_15 : pr_Law_law[15]? = some (26, 1, .arraylength, [9]) := rfl
theorem pa_Law_law_16 : pr_Law_law[16]? = some (27, 2, .bipush 6, [6, 0]) := rfl
theorem pa_Law_law_17 : pr_Law_law[17]? = some (29, 1, .isub, []) := rfl
theorem pa_Law_law_18 : pr_Law_law[18]? = some (30, 3, .if_icmp .gt (675), [434]) := rfl
theorem pa_Law_law_19 : pr_Law_law[19]? = some (33, 1, .aload_n 0, []) := rfl
theorem pa_Law_law_20 : pr_Law_law[20]? = some (34, 2, .iload 4, []) := rfl
theorem pa_Law_law_21 : pr_Law_law[21]? = some (36, 1, .iaload, [9]) := rfl
theorem pa_Law_law_22 : pr_Law_law[22]? = some (37, 2, .bipush 15, [15, 0]) := rfl
theorem pa_Law_law_23 : pr_Law_law[23]? = some (39, 1, .iand, []) := rfl
theorem pa_Law_law_24 : pr_Law_law[24]? = some (40, 76, .tableswitch 659 0 14 #[76, 113, 138, 175, 186, 211, 248, 297, 410, 435, 448, 473, 529, 554, 622], [432, 25, 52, 69, 96, 101, 118, 145, 182, 267, 284, 291, 308, 343, 360, 405]) := rfl
theorem pa_Law_law_25 : pr_Law_law[25]? = some (116, 1, .aload_n 1, []) := rfl
theorem pa_Law_law_26 : pr_Law_law[26]? = some (117, 1, .aload_n 0, []) := rfl
theorem pa_Law_law_27 : pr_Law_law[27]? = some (118, 2, .iload 4, []) := rfl
theorem pa_Law_law_28 : pr_Law_law[28]? = some (120, 1, .iconst 1, [1, 0]) := rfl
theorem pa_Law_law_29 : pr_Law_law[29]? = some (121, 1, .iadd, []) := rfl
theorem pa_Law_law_30 : pr_Law_law[30]? = some (122, 1, .iaload, [9]) := rfl
theorem pa_Law_law_31 : pr_Law_law[31]? = some (123, 1, .aload_n 0, []) := rfl
theorem pa_Law_law_32 : pr_Law_law[32]? = some (124, 2, .iload 4, []) := rfl
theorem pa_Law_law_33 : pr_Law_law[33]? = some (126, 1, .iconst 2, [2, 0]) := rfl
theorem pa_Law_law_34 : pr_Law_law[34]? = some (127, 1, .iadd, []) := rfl
theorem pa_Law_law_35 : pr_Law_law[35]? = some (128, 1, .iaload, [9]) := rfl
theorem pa_Law_law_36 : pr_Law_law[36]? = some (129, 3, .invokevirtual 23, [22, 2, 6, 0, 253, 254, 255, 40]) := rfl
theorem pa_Law_law_37 : pr_Law_law[37]? = some (132, 1, .aload_n 2, []) := rfl
theorem pa_Law_law_38 : pr_Law_law[38]? = some (133, 1, .aload_n 0, []) := rfl
theorem pa_Law_law_39 : pr_Law_law[39]? = some (134, 2, .iload 4, []) := rfl
theorem pa_Law_law_40 : pr_Law_law[40]? = some (136, 1, .iconst 1, [1, 0]) := rfl
theorem pa_Law_law_41 : pr_Law_law[41]? = some (137, 1, .iadd, []) := rfl
theorem pa_Law_law_42 : pr_Law_law[42]? = some (138, 1, .iaload, [9]) := rfl
theorem pa_Law_law_43 : pr_Law_law[43]? = some (139, 1, .aload_n 0, []) := rfl
theorem pa_Law_law_44 : pr_Law_law[44]? = some (140, 2, .iload 4, []) := rfl
theorem pa_Law_law_45 : pr_Law_law[45]? = some (142, 1, .iconst 2, [2, 0]) := rfl
theorem pa_Law_law_46 : pr_Law_law[46]? = some (143, 1, .iadd, []) := rfl
theorem pa_Law_law_47 : pr_Law_law[47]? = some (144, 1, .iaload, [9]) := rfl
theorem pa_Law_law_48 : pr_Law_law[48]? = some (145, 3, .invokevirtual 27, [69, 2, 7, 0, 696, 697, 698, 47]) := rfl
theorem pa_Law_law_49 : pr_Law_law[49]? = some (148, 3, .if_icmp .eq (551), [432]) := rfl
theorem pa_Law_law_50 : pr_Law_law[50]? = some (151, 1, .iconst 0, [0, 0]) := rfl
theorem pa_Law_law_51 : pr_Law_law[51]? = some (152, 1, .ireturn, [1]) := rfl
theorem pa_Law_law_52 : pr_Law_law[52]? = some (153, 1, .aload_n 1, []) := rfl
theorem pa_Law_law_53 : pr_Law_law[53]? = some (154, 1, .aload_n 0, []) := rfl
theorem pa_Law_law_54 : pr_Law_law[54]? = some (155, 2, .iload 4, []) := rfl
theorem pa_Law_law_55 : pr_Law_law[55]? = some (157, 1, .iconst 1, [1, 0]) := rfl
theorem pa_Law_law_56 : pr_Law_law[56]? = some (158, 1, .iadd, []) := rfl
theorem pa_Law_law_57 : pr_Law_law[57]? = some (159, 1, .iaload, [9]) := rfl
theorem pa_Law_law_58 : pr_Law_law[58]? = some (160, 3, .invokevirtual 28, [105, 1, 6, 0, 257, 258, 259, 40]) := rfl
theorem pa_Law_law_59 : pr_Law_law[59]? = some (163, 1, .aload_n 2, []) := rfl
theorem pa_Law_law_60 : pr_Law_law[60]? = some (164, 1, .aload_n 0, []) := rfl
theorem pa_Law_law_61 : pr_Law_law[61]? = some (165, 2, .iload 4, []) := rfl
theorem pa_Law_law_62 : pr_Law_law[62]? = some (167, 1, .iconst 1, [1, 0]) := rfl
theorem pa_Law_law_63 : pr_Law_law[63]? = some (168, 1, .iadd, []) := rfl
theorem pa_Law_law_64 : pr_Law_law[64]? = some (169, 1, .iaload, [9]) := rfl
theorem pa_Law_law_65 : pr_Law_law[65]? = some (170, 3, .invokevirtual 31, [93, 1, 7, 0, 703, 704, 705, 47]) := rfl
theorem pa_Law_law_66 : pr_Law_law[66]? = some (173, 3, .if_icmp .eq (526), [432]) := rfl
theorem pa_Law_law_67 : pr_Law_law[67]? = some (176, 1, .iconst 0, [0, 0]) := rfl
theorem pa_Law_law_68 : pr_Law_law[68]? = some (177, 1, .ireturn, [1]) := rfl
theorem pa_Law_law_69 : pr_Law_law[69]? = some (178, 1, .aload_n 1, []) := rfl
theorem pa_Law_law_70 : pr_Law_law[70]? = some (179, 1, .aload_n 0, []) := rfl
theorem pa_Law_law_71 : pr_Law_law[71]? = some (180, 2, .iload 4, []) := rfl
theorem pa_Law_law_72 : pr_Law_law[72]? = some (182, 1, .iconst 1, [1, 0]) := rfl
theorem pa_Law_law_73 : pr_Law_law[73]? = some (183, 1, .iadd, []) := rfl
theorem pa_Law_law_74 : pr_Law_law[74]? = some (184, 1, .iaload, [9]) := rfl
theorem pa_Law_law_75 : pr_Law_law[75]? = some (185, 1, .aload_n 0, []) := rfl
theorem pa_Law_law_76 : pr_Law_law[76]? = some (186, 2, .iload 4, []) := rfl
theorem pa_Law_law_77 : pr_Law_law[77]? = some (188, 1, .iconst 2, [2, 0]) := rfl
theorem pa_Law_law_78 : pr_Law_law[78]? = some (189, 1, .iadd, []) := rfl
theorem pa_Law_law_79 : pr_Law_law[79]? = some (190, 1, .iaload, [9]) := rfl
theorem pa_Law_law_80 : pr_Law_law[80]? = some (191, 3, .invokevirtual 32, [59, 2, 6, 0, 381, 382, 383, 40]) := rfl
theorem pa_Law_law_81 : pr_Law_law[81]? = some (194, 1, .aload_n 2, []) := rfl
theorem pa_Law_law_82 : pr_Law_law[82]? = some (195, 1, .aload_n 0, []) := rfl
theorem pa_Law_law_83 : pr_Law_law[83]? = some (196, 2, .iload 4, []) := rfl
theorem pa_Law_law_84 : pr_Law_law[84]? = some (198, 1, .iconst 1, [1, 0]) := rfl
theorem pa_Law_law_85 : pr_Law_law[85]? = some (199, 1, .iadd, []) := rfl
theorem pa_Law_law_86 : pr_Law_law[86]? = some (200, 1, .iaload, [9]) := rfl
theorem pa_Law_law_87 : pr_Law_law[87]? = some (201, 1, .aload_n 0, []) := rfl
theorem pa_Law_law_88 : pr_Law_law[88]? = some (202, 2, .iload 4, []) := rfl
theorem pa_Law_law_89 : pr_Law_law[89]? = some (204, 1, .iconst 2, [2, 0]) := rfl
theorem pa_Law_law_90 : pr_Law_law[90]? = some (205, 1, .iadd, []) := rfl
theorem pa_Law_law_91 : pr_Law_law[91]? = some (206, 1, .iaload, [9]) := rfl
theorem pa_Law_law_92 : pr_Law_law[92]? = some (207, 3, .invokevirtual 35, [68, 2, 7, 0, 724, 725, 726, 47]) := rfl
theorem pa_Law_law_93 : pr_Law_law[93]? = some (210, 3, .if_icmp .eq (489), [432]) := rfl
theorem pa_Law_law_94 : pr_Law_law[94]? = some (213, 1, .iconst 0, [0, 0]) := rfl
theorem pa_Law_law_95 : pr_Law_law[95]? = some (214, 1, .ireturn, [1]) := rfl
theorem pa_Law_law_96 : pr_Law_law[96]? = some (215, 1, .aload_n 1, []) := rfl
theorem pa_Law_law_97 : pr_Law_law[97]? = some (216, 3, .invokevirtual 36, [16, 0, 6, 0, 394, 395, 396, 40]) := rfl
theorem pa_Law_law_98 : pr_Law_law[98]? = some (219, 1, .aload_n 2, []) := rfl
theorem pa_Law_law_99 : pr_Law_law[99]? = some (220, 3, .invokevirtual 39, [25, 0, 7, 0, 728, 729, 730, 47]) := rfl
theorem pa_Law_law_100 : pr_Law_law[100]? = some (223, 3, .goto (476), [432]) := rfl
theorem pa_Law_law_101 : pr_Law_law[101]? = some (226, 1, .aload_n 1, []) := rfl
theorem pa_Law_law_102 : pr_Law_law[102]? = some (227, 1, .aload_n 0, []) := rfl
theorem pa_Law_law_103 : pr_Law_law[103]? = some (228, 2, .iload 4, []) := rfl
theorem pa_Law_law_104 : pr_Law_law[104]? = some (230, 1, .iconst 1, [1, 0]) := rfl
theorem pa_Law_law_105 : pr_Law_law[105]? = some (231, 1, .iadd, []) := rfl
theorem pa_Law_law_106 : pr_Law_law[106]? = some (232, 1, .iaload, [9]) := rfl
theorem pa_Law_law_107 : pr_Law_law[107]? = some (233, 3, .invokevirtual 40, [61, 1, 6, 0, 398, 399, 400, 40]) := rfl
theorem pa_Law_law_108 : pr_Law_law[108]? = some (236, 1, .aload_n 2, []) := rfl
theorem pa_Law_law_109 : pr_Law_law[109]? = some (237, 1, .aload_n 0, []) := rfl
theorem pa_Law_law_110 : pr_Law_law[110]? = some (238, 2, .iload 4, []) := rfl
theorem pa_Law_law_111 : pr_Law_law[111]? = some (240, 1, .iconst 1, [1, 0]) := rfl
theorem pa_Law_law_112 : pr_Law_law[112]? = some (241, 1, .iadd, []) := rfl
theorem pa_Law_law_113 : pr_Law_law[113]? = some (242, 1, .iaload, [9]) := rfl
theorem pa_Law_law_114 : pr_Law_law[114]? = some (243, 3, .invokevirtual 44, [90, 1, 7, 0, 732, 733, 734, 47]) := rfl
theorem pa_Law_law_115 : pr_Law_law[115]? = some (246, 3, .if_icmp .eq (453), [432]) := rfl
theorem pa_Law_law_116 : pr_Law_law[116]? = some (249, 1, .iconst 0, [0, 0]) := rfl
theorem pa_Law_law_117 : pr_Law_law[117]? = some (250, 1, .ireturn, [1]) := rfl
theorem pa_Law_law_118 : pr_Law_law[118]? = some (251, 1, .aload_n 1, []) := rfl
theorem pa_Law_law_119 : pr_Law_law[119]? = some (252, 1, .aload_n 0, []) := rfl
theorem pa_Law_law_120 : pr_Law_law[120]? = some (253, 2, .iload 4, []) := rfl
theorem pa_Law_law_121 : pr_Law_law[121]? = some (255, 1, .iconst 1, [1, 0]) := rfl
theorem pa_Law_law_122 : pr_Law_law[122]? = some (256, 1, .iadd, []) := rfl
theorem pa_Law_law_123 : pr_Law_law[123]? = some (257, 1, .iaload, [9]) := rfl
theorem pa_Law_law_124 : pr_Law_law[124]? = some (258, 1, .aload_n 0, []) := rfl
theorem pa_Law_law_125 : pr_Law_law[125]? = some (259, 2, .iload 4, []) := rfl
theorem pa_Law_law_126 : pr_Law_law[126]? = some (261, 1, .iconst 2, [2, 0]) := rfl
theorem pa_Law_law_127 : pr_Law_law[127]? = some (262, 1, .iadd, []) := rfl
theorem pa_Law_law_128 : pr_Law_law[128]? = some (263, 1, .iaload, [9]) := rfl
theorem pa_Law_law_129 : pr_Law_law[129]? = some (264, 3, .invokevirtual 45, [86, 2, 6, 0, 410, 411, 412, 40]) := rfl
theorem pa_Law_law_130 : pr_Law_law[130]? = some (267, 1, .aload_n 2, []) := rfl
theorem pa_Law_law_131 : pr_Law_law[131]? = some (268, 1, .aload_n 0, []) := rfl
theorem pa_Law_law_132 : pr_Law_law[132]? = some (269, 2, .iload 4, []) := rfl
theorem pa_Law_law_133 : pr_Law_law[133]? = some (271, 1, .iconst 1, [1, 0]) := rfl
theorem pa_Law_law_134 : pr_Law_law[134]? = some (272, 1, .iadd, []) := rfl
theorem pa_Law_law_135 : pr_Law_law[135]? = some (273, 1, .iaload, [9]) := rfl
theorem pa_Law_law_136 : pr_Law_law[136]? = some (274, 1, .aload_n 0, []) := rfl
theorem pa_Law_law_137 : pr_Law_law[137]? = some (275, 2, .iload 4, []) := rfl
theorem pa_Law_law_138 : pr_Law_law[138]? = some (277, 1, .iconst 2, [2, 0]) := rfl
theorem pa_Law_law_139 : pr_Law_law[139]? = some (278, 1, .iadd, []) := rfl
theorem pa_Law_law_140 : pr_Law_law[140]? = some (279, 1, .iaload, [9]) := rfl
theorem pa_Law_law_141 : pr_Law_law[141]? = some (280, 3, .invokevirtual 48, [91, 2, 7, 0, 740, 741, 742, 47]) := rfl
theorem pa_Law_law_142 : pr_Law_law[142]? = some (283, 3, .if_icmp .eq (416), [432]) := rfl
theorem pa_Law_law_143 : pr_Law_law[143]? = some (286, 1, .iconst 0, [0, 0]) := rfl
theorem pa_Law_law_144 : pr_Law_law[144]? = some (287, 1, .ireturn, [1]) := rfl
theorem pa_Law_law_145 : pr_Law_law[145]? = some (288, 1, .aload_n 1, []) := rfl
theorem pa_Law_law_146 : pr_Law_law[146]? = some (289, 1, .aload_n 0, []) := rfl
theorem pa_Law_law_147 : pr_Law_law[147]? = some (290, 2, .iload 4, []) := rfl
theorem pa_Law_law_148 : pr_Law_law[148]? = some (292, 1, .iconst 1, [1, 0]) := rfl
theorem pa_Law_law_149 : pr_Law_law[149]? = some (293, 1, .iadd, []) := rfl
theorem pa_Law_law_150 : pr_Law_law[150]? = some (294, 1, .iaload, [9]) := rfl
theorem pa_Law_law_151 : pr_Law_law[151]? = some (295, 1, .aload_n 0, []) := rfl
theorem pa_Law_law_152 : pr_Law_law[152]? = some (296, 2, .iload 4, []) := rfl
theorem pa_Law_law_153 : pr_Law_law[153]? = some (298, 1, .iconst 2, [2, 0]) := rfl
theorem pa_Law_law_154 : pr_Law_law[154]? = some (299, 1, .iadd, []) := rfl
theorem pa_Law_law_155 : pr_Law_law[155]? = some (300, 1, .iaload, [9]) := rfl
theorem pa_Law_law_156 : pr_Law_law[156]? = some (301, 1, .aload_n 0, []) := rfl
theorem pa_Law_law_157 : pr_Law_law[157]? = some (302, 2, .iload 4, []) := rfl
theorem pa_Law_law_158 : pr_Law_law[158]? = some (304, 1, .iconst 3, [3, 0]) := rfl
theorem pa_Law_law_159 : pr_Law_law[159]? = some (305, 1, .iadd, []) := rfl
theorem pa_Law_law_160 : pr_Law_law[160]? = some (306, 1, .iaload, [9]) := rfl
theorem pa_Law_law_161 : pr_Law_law[161]? = some (307, 3, .invokevirtual 49, [87, 3, 6, 0, 420, 421, 422, 40]) := rfl
theorem pa_Law_law_162 : pr_Law_law[162]? = some (310, 1, .aload_n 2, []) := rfl
theorem pa_Law_law_163 : pr_Law_law[163]? = some (311, 1, .aload_n 0, []) := rfl
theorem pa_Law_law_164 : pr_Law_law[164]? = some (312, 2, .iload 4, []) := rfl
theorem pa_Law_law_165 : pr_Law_law[165]? = some (314, 1, .iconst 1, [1, 0]) := rfl
theorem pa_Law_law_166 : pr_Law_law[166]? = some (315, 1, .iadd, []) := rfl
theorem pa_Law_law_167 : pr_Law_law[167]? = some (316, 1, .iaload, [9]) := rfl
theorem pa_Law_law_168 : pr_Law_law[168]? = some (317, 1, .aload_n 0, []) := rfl
theorem pa_Law_law_169 : pr_Law_law[169]? = some (318, 2, .iload 4, []) := rfl
theorem pa_Law_law_170 : pr_Law_law[170]? = some (320, 1, .iconst 2, [2, 0]) := rfl
theorem pa_Law_law_171 : pr_Law_law[171]? = some (321, 1, .iadd, []) := rfl
theorem pa_Law_law_172 : pr_Law_law[172]? = some (322, 1, .iaload, [9]) := rfl
theorem pa_Law_law_173 : pr_Law_law[173]? = some (323, 1, .aload_n 0, []) := rfl
theorem pa_Law_law_174 : pr_Law_law[174]? = some (324, 2, .iload 4, []) := rfl
theorem pa_Law_law_175 : pr_Law_law[175]? = some (326, 1, .iconst 3, [3, 0]) := rfl
theorem pa_Law_law_176 : pr_Law_law[176]? = some (327, 1, .iadd, []) := rfl
theorem pa_Law_law_177 : pr_Law_law[177]? = some (328, 1, .iaload, [9]) := rfl
theorem pa_Law_law_178 : pr_Law_law[178]? = some (329, 3, .invokevirtual 53, [92, 3, 7, 0, 744, 745, 746, 47]) := rfl
theorem pa_Law_law_179 : pr_Law_law[179]? = some (332, 3, .if_icmp .eq (367), [432]) := rfl
theorem pa_Law_law_180 : pr_Law_law[180]? = some (335, 1, .iconst 0, [0, 0]) := rfl
theorem pa_Law_law_181 : pr_Law_law[181]? = some (336, 1, .ireturn, [1]) := rfl
theorem pa_Law_law_182 : pr_Law_law[182]? = some (337, 1, .aload_n 1, []) := rfl
theorem pa_Law_law_183 : pr_Law_law[183]? = some (338, 1, .aload_n 0, []) := rfl
theorem pa_Law_law_184 : pr_Law_law[184]? = some (339, 2, .iload 4, []) := rfl
theorem pa_Law_law_185 : pr_Law_law[185]? = some (341, 1, .iconst 1, [1, 0]) := rfl
theorem pa_Law_law_186 : pr_Law_law[186]? = some (342, 1, .iadd, []) := rfl
theorem pa_Law_law_187 : pr_Law_law[187]? = some (343, 1, .iaload, [9]) := rfl
theorem pa_Law_law_188 : pr_Law_law[188]? = some (344, 1, .i2l, []) := rfl
theorem pa_Law_law_189 : pr_Law_law[189]? = some (345, 2, .bipush 32, [32, 0]) := rfl
theorem pa_Law_law_190 : pr_Law_law[190]? = some (347, 1, .lshl, []) := rfl
theorem pa_Law_law_191 : pr_Law_law[191]? = some (348, 1, .aload_n 0, []) := rfl
theorem pa_Law_law_192 : pr_Law_law[192]? = some (349, 2, .iload 4, []) := rfl
theorem pa_Law_law_193 : pr_Law_law[193]? = some (351, 1, .iconst 2, [2, 0]) := rfl
theorem pa_Law_law_194 : pr_Law_law[194]? = some (352, 1, .iadd, []) := rfl
theorem pa_Law_law_195 : pr_Law_law[195]? = some (353, 1, .iaload, [9]) := rfl
theorem pa_Law_law_196 : pr_Law_law[196]? = some (354, 1, .i2l, []) := rfl
theorem pa_Law_law_197 : pr_Law_law[197]? = some (355, 3, .ldc2_w 54, [4294967295, 0, 810]) := rfl
theorem pa_Law_law_198 : pr_Law_law[198]? = some (358, 1, .land, []) := rfl
theorem pa_Law_law_199 : pr_Law_law[199]? = some (359, 1, .lor, []) := rfl
theorem pa_Law_law_200 : pr_Law_law[200]? = some (360, 1, .aload_n 0, []) := rfl
set_option maxRecDepth 5000 in
theorem pa_Law_law_201 : pr_Law_law[201]? = some (361, 2, .iload 4, []) := rfl
set_option maxRecDepth 5000 in
theorem pa_Law_law_202 : pr_Law_law[202]? = some (363, 1, .iconst 3, [3, 0]) := rfl
set_option maxRecDepth 5000 in
theorem pa_Law_law_203 : pr_Law_law[203]? = some (364, 1, .iadd, []) := rfl
set_option maxRecDepth 5000 in
theorem pa_Law_law_204 : pr_Law_law[204]? = some (365, 1, .iaload, [9]) := rfl
set_option maxRecDepth 5000 in
theorem pa_Law_law_205 : pr_Law_law[205]? = some (366, 1, .i2l, []) := rfl
set_option maxRecDepth 5000 in
theorem pa_Law_law_206 : pr_Law_law[206]? = some (367, 2, .bipush 32, [32, 0]) := rfl
set_option maxRecDepth 5000 in
theorem pa_Law_law_207 : pr_Law_law[207]? = some (369, 1, .lshl, []) := rfl
set_option maxRecDepth 5000 in
theorem pa_Law_law_208 : pr_Law_law[208]? = some (370, 1, .aload_n 0, []) := rfl
set_option maxRecDepth 5000 in
theorem pa_Law_law_209 : pr_Law_law[209]? = some (371, 2, .iload 4, []) := rfl
set_option maxRecDepth 5000 in
theorem pa_Law_law_210 : pr_Law_law[210]? = some (373, 1, .iconst 4, [4, 0]) := rfl
set_option maxRecDepth 5000 in
theorem pa_Law_law_211 : pr_Law_law[211]? = some (374, 1, .iadd, []) := rfl
set_option maxRecDepth 5000 in
theorem pa_Law_law_212 : pr_Law_law[212]? = some (375, 1, .iaload, [9]) := rfl
set_option maxRecDepth 5000 in
theorem pa_Law_law_213 : pr_Law_law[213]? = some (376, 1, .i2l, []) := rfl
set_option maxRecDepth 5000 in
theorem pa_Law_law_214 : pr_Law_law[214]? = some (377, 3, .ldc2_w 54, [4294967295, 0, 810]) := rfl
set_option maxRecDepth 5000 in
theorem pa_Law_law_215 : pr_Law_law[215]? = some (380, 1, .land, []) := rfl
set_option maxRecDepth 5000 in
theorem pa_Law_law_216 : pr_Law_law[216]? = some (381, 1, .lor, []) := rfl
set_option maxRecDepth 5000 in
theorem pa_Law_law_217 : pr_Law_law[217]? = some (382, 1, .aload_n 0, []) := rfl
set_option maxRecDepth 5000 in
theorem pa_Law_law_218 : pr_Law_law[218]? = some (383, 2, .iload 4, []) := rfl
set_option maxRecDepth 5000 in
theorem pa_Law_law_219 : pr_Law_law[219]? = some (385, 1, .iconst 5, [5, 0]) := rfl
set_option maxRecDepth 5000 in
theorem pa_Law_law_220 : pr_Law_law[220]? = some (386, 1, .iadd, []) := rfl
set_option maxRecDepth 5000 in
theorem pa_Law_law_221 : pr_Law_law[221]? = some (387, 1, .iaload, [9]) := rfl
set_option maxRecDepth 5000 in
theorem pa_Law_law_222 : pr_Law_law[222]? = some (388, 3, .invokevirtual 56, [58, 3, 6, 0, 424, 425, 426, 40]) := rfl
set_option maxRecDepth 5000 in
theorem pa_Law_law_223 : pr_Law_law[223]? = some (391, 1, .aload_n 2, []) := rfl
set_option maxRecDepth 5000 in
theorem pa_Law_law_224 : pr_Law_law[224]? = some (392, 1, .aload_n 0, []) := rfl
set_option maxRecDepth 5000 in
theorem pa_Law_law_225 : pr_Law_law[225]? = some (393, 2, .iload 4, []) := rfl
set_option maxRecDepth 5000 in
theorem pa_Law_law_226 : pr_Law_law[226]? = some (395, 1, .iconst 1, [1, 0]) := rfl
set_option maxRecDepth 5000 in
theorem pa_Law_law_227 : pr_Law_law[227]? = some (396, 1, .iadd, []) := rfl
set_option maxRecDepth 5000 in
theorem pa_Law_law_228 : pr_Law_law[228]? = some (397, 1, .iaload, [9]) := rfl
set_option maxRecDepth 5000 in
theorem pa_Law_law_229 : pr_Law_law[229]? = some (398, 1, .i2l, []) := rfl
set_option maxRecDepth 5000 in
theorem pa_Law_law_230 : pr_Law_law[230]? = some (399, 2, .bipush 32, [32, 0]) := rfl
set_option maxRecDepth 5000 in
theorem pa_Law_law_231 : pr_Law_law[231]? = some (401, 1, .lshl, []) := rfl
set_option maxRecDepth 5000 in
theorem pa_Law_law_232 : pr_Law_law[232]? = some (402, 1, .aload_n 0, []) := rfl
set_option maxRecDepth 5000 in
theorem pa_Law_law_233 : pr_Law_law[233]? = some (403, 2, .iload 4, []) := rfl
set_option maxRecDepth 5000 in
theorem pa_Law_law_234 : pr_Law_law[234]? = some (405, 1, .iconst 2, [2, 0]) := rfl
set_option maxRecDepth 5000 in
theorem pa_Law_law_235 : pr_Law_law[235]? = some (406, 1, .iadd, []) := rfl
set_option maxRecDepth 5000 in
theorem pa_Law_law_236 : pr_Law_law[236]? = some (407, 1, .iaload, [9]) := rfl
set_option maxRecDepth 5000 in
theorem pa_Law_law_237 : pr_Law_law[237]? = some (408, 1, .i2l, []) := rfl
set_option maxRecDepth 5000 in
theorem pa_Law_law_238 : pr_Law_law[238]? = some (409, 3, .ldc2_w 54, [4294967295, 0, 810]) := rfl
set_option maxRecDepth 5000 in
theorem pa_Law_law_239 : pr_Law_law[239]? = some (412, 1, .land, []) := rfl
set_option maxRecDepth 5000 in
theorem pa_Law_law_240 : pr_Law_law[240]? = some (413, 1, .lor, []) := rfl
set_option maxRecDepth 5000 in
theorem pa_Law_law_241 : pr_Law_law[241]? = some (414, 1, .aload_n 0, []) := rfl
set_option maxRecDepth 5000 in
theorem pa_Law_law_242 : pr_Law_law[242]? = some (415, 2, .iload 4, []) := rfl
set_option maxRecDepth 5000 in
theorem pa_Law_law_243 : pr_Law_law[243]? = some (417, 1, .iconst 3, [3, 0]) := rfl
set_option maxRecDepth 5000 in
theorem pa_Law_law_244 : pr_Law_law[244]? = some (418, 1, .iadd, []) := rfl
set_option maxRecDepth 5000 in
theorem pa_Law_law_245 : pr_Law_law[245]? = some (419, 1, .iaload, [9]) := rfl
set_option maxRecDepth 5000 in
theorem pa_Law_law_246 : pr_Law_law[246]? = some (420, 1, .i2l, []) := rfl
set_option maxRecDepth 5000 in
theorem pa_Law_law_247 : pr_Law_law[247]? = some (421, 2, .bipush 32, [32, 0]) := rfl
set_option maxRecDepth 5000 in
theorem pa_Law_law_248 : pr_Law_law[248]? = some (423, 1, .lshl, []) := rfl
set_option maxRecDepth 5000 in
theorem pa_Law_law_249 : pr_Law_law[249]? = some (424, 1, .aload_n 0, []) := rfl
set_option maxRecDepth 5000 in
theorem pa_Law_law_250 : pr_Law_law[250]? = some (425, 2, .iload 4, []) := rfl
set_option maxRecDepth 5000 in
theorem pa_Law_law_251 : pr_Law_law[251]? = some (427, 1, .iconst 4, [4, 0]) := rfl
set_option maxRecDepth 5000 in
theorem pa_Law_law_252 : pr_Law_law[252]? = some (428, 1, .iadd, []) := rfl
set_option maxRecDepth 5000 in
theorem pa_Law_law_253 : pr_Law_law[253]? = some (429, 1, .iaload, [9]) := rfl
set_option maxRecDepth 5000 in
theorem pa_Law_law_254 : pr_Law_law[254]? = some (430, 1, .i2l, []) := rfl
set_option maxRecDepth 5000 in
theorem pa_Law_law_255 : pr_Law_law[255]? = some (431, 3, .ldc2_w 54, [4294967295, 0, 810]) := rfl
set_option maxRecDepth 5000 in
theorem pa_Law_law_256 : pr_Law_law[256]? = some (434, 1, .land, []) := rfl
set_option maxRecDepth 5000 in
theorem pa_Law_law_257 : pr_Law_law[257]? = some (435, 1, .lor, []) := rfl
set_option maxRecDepth 5000 in
theorem pa_Law_law_258 : pr_Law_law[258]? = some (436, 1, .aload_n 0, []) := rfl
set_option maxRecDepth 5000 in
theorem pa_Law_law_259 : pr_Law_law[259]? = some (437, 2, .iload 4, []) := rfl
set_option maxRecDepth 5000 in
theorem pa_Law_law_260 : pr_Law_law[260]? = some (439, 1, .iconst 5, [5, 0]) := rfl
set_option maxRecDepth 5000 in
theorem pa_Law_law_261 : pr_Law_law[261]? = some (440, 1, .iadd, []) := rfl
set_option maxRecDepth 5000 in
theorem pa_Law_law_262 : pr_Law_law[262]? = some (441, 1, .iaload, [9]) := rfl
set_option maxRecDepth 5000 in
theorem pa_Law_law_263 : pr_Law_law[263]? = some (442, 3, .invokevirtual 60, [64, 3, 7, 0, 748, 749, 750, 47]) := rfl
set_option maxRecDepth 5000 in
theorem pa_Law_law_264 : pr_Law_law[264]? = some (445, 3, .if_icmp .eq (254), [432]) := rfl
set_option maxRecDepth 5000 in
theorem pa_Law_law_265 : pr_Law_law[265]? = some (448, 1, .iconst 0, [0, 0]) := rfl
set_option maxRecDepth 5000 in
theorem pa_Law_law_266 : pr_Law_law[266]? = some (449, 1, .ireturn, [1]) := rfl
set_option maxRecDepth 5000 in
theorem pa_Law_law_267 : pr_Law_law[267]? = some (450, 1, .aload_n 1, []) := rfl
set_option maxRecDepth 5000 in
theorem pa_Law_law_268 : pr_Law_law[268]? = some (451, 1, .aload_n 0, []) := rfl
set_option maxRecDepth 5000 in
theorem pa_Law_law_269 : pr_Law_law[269]? = some (452, 2, .iload 4, []) := rfl
set_option maxRecDepth 5000 in
theorem pa_Law_law_270 : pr_Law_law[270]? = some (454, 1, .iconst 1, [1, 0]) := rfl
set_option maxRecDepth 5000 in
theorem pa_Law_law_271 : pr_Law_law[271]? = some (455, 1, .iadd, []) := rfl
set_option maxRecDepth 5000 in
theorem pa_Law_law_272 : pr_Law_law[272]? = some (456, 1, .iaload, [9]) := rfl
set_option maxRecDepth 5000 in
theorem pa_Law_law_273 : pr_Law_law[273]? = some (457, 3, .invokevirtual 61, [24, 1, 6, 0, 428, 429, 430, 40]) := rfl
set_option maxRecDepth 5000 in
theorem pa_Law_law_274 : pr_Law_law[274]? = some (460, 1, .aload_n 2, []) := rfl
set_option maxRecDepth 5000 in
theorem pa_Law_law_275 : pr_Law_law[275]? = some (461, 1, .aload_n 0, []) := rfl
set_option maxRecDepth 5000 in
theorem pa_Law_law_276 : pr_Law_law[276]? = some (462, 2, .iload 4, []) := rfl
set_option maxRecDepth 5000 in
theorem pa_Law_law_277 : pr_Law_law[277]? = some (464, 1, .iconst 1, [1, 0]) := rfl
set_option maxRecDepth 5000 in
theorem pa_Law_law_278 : pr_Law_law[278]? = some (465, 1, .iadd, []) := rfl
set_option maxRecDepth 5000 in
theorem pa_Law_law_279 : pr_Law_law[279]? = some (466, 1, .iaload, [9]) := rfl
set_option maxRecDepth 5000 in
theorem pa_Law_law_280 : pr_Law_law[280]? = some (467, 3, .invokevirtual 64, [32, 1, 7, 0, 753, 754, 755, 47]) := rfl
set_option maxRecDepth 5000 in
theorem pa_Law_law_281 : pr_Law_law[281]? = some (470, 3, .if_icmp .eq (229), [432]) := rfl
set_option maxRecDepth 5000 in
theorem pa_Law_law_282 : pr_Law_law[282]? = some (473, 1, .iconst 0, [0, 0]) := rfl
set_option maxRecDepth 5000 in
theorem pa_Law_law_283 : pr_Law_law[283]? = some (474, 1, .ireturn, [1]) := rfl
set_option maxRecDepth 5000 in
theorem pa_Law_law_284 : pr_Law_law[284]? = some (475, 1, .aload_n 1, []) := rfl
set_option maxRecDepth 5000 in
theorem pa_Law_law_285 : pr_Law_law[285]? = some (476, 3, .invokevirtual 65, [18, 0, 6, 0, 435, 436, 437, 40]) := rfl
set_option maxRecDepth 5000 in
theorem pa_Law_law_286 : pr_Law_law[286]? = some (479, 1, .aload_n 2, []) := rfl
set_option maxRecDepth 5000 in
theorem pa_Law_law_287 : pr_Law_law[287]? = some (480, 3, .invokevirtual 69, [28, 0, 7, 0, 761, 762, 763, 47]) := rfl
set_option maxRecDepth 5000 in
theorem pa_Law_law_288 : pr_Law_law[288]? = some (483, 3, .if_icmp .eq (216), [432]) := rfl
set_option maxRecDepth 5000 in
theorem pa_Law_law_289 : pr_Law_law[289]? = some (486, 1, .iconst 0, [0, 0]) := rfl
set_option maxRecDepth 5000 in
theorem pa_Law_law_290 : pr_Law_law[290]? = some (487, 1, .ireturn, [1]) := rfl
set_option maxRecDepth 5000 in
theorem pa_Law_law_291 : pr_Law_law[291]? = some (488, 1, .aload_n 1, []) := rfl
set_option maxRecDepth 5000 in
theorem pa_Law_law_292 : pr_Law_law[292]? = some (489, 1, .aload_n 0, []) := rfl
set_option maxRecDepth 5000 in
theorem pa_Law_law_293 : pr_Law_law[293]? = some (490, 2, .iload 4, []) := rfl
set_option maxRecDepth 5000 in
theorem pa_Law_law_294 : pr_Law_law[294]? = some (492, 1, .iconst 1, [1, 0]) := rfl
set_option maxRecDepth 5000 in
theorem pa_Law_law_295 : pr_Law_law[295]? = some (493, 1, .iadd, []) := rfl
set_option maxRecDepth 5000 in
theorem pa_Law_law_296 : pr_Law_law[296]? = some (494, 1, .iaload, [9]) := rfl
set_option maxRecDepth 5000 in
theorem pa_Law_law_297 : pr_Law_law[297]? = some (495, 3, .invokevirtual 70, [106, 1, 6, 0, 439, 440, 441, 40]) := rfl
set_option maxRecDepth 5000 in
theorem pa_Law_law_298 : pr_Law_law[298]? = some (498, 1, .aload_n 2, []) := rfl
set_option maxRecDepth 5000 in
theorem pa_Law_law_299 : pr_Law_law[299]? = some (499, 1, .aload_n 0, []) := rfl
set_option maxRecDepth 5000 in
theorem pa_Law_law_300 : pr_Law_law[300]? = some (500, 2, .iload 4, []) := rfl
set_option maxRecDepth 5000 in
theorem pa_Law_law_301 : pr_Law_law[301]? = some (502, 1, .iconst 1, [1, 0]) := rfl
set_option maxRecDepth 5000 in
theorem pa_Law_law_302 : pr_Law_law[302]? = some (503, 1, .iadd, []) := rfl
set_option maxRecDepth 5000 in
theorem pa_Law_law_303 : pr_Law_law[303]? = some (504, 1, .iaload, [9]) := rfl
set_option maxRecDepth 5000 in
theorem pa_Law_law_304 : pr_Law_law[304]? = some (505, 3, .invokevirtual 73, [103, 1, 7, 0, 765, 766, 767, 47]) := rfl
set_option maxRecDepth 5000 in
theorem pa_Law_law_305 : pr_Law_law[305]? = some (508, 3, .if_icmp .eq (191), [432]) := rfl
set_option maxRecDepth 5000 in
theorem pa_Law_law_306 : pr_Law_law[306]? = some (511, 1, .iconst 0, [0, 0]) := rfl
set_option maxRecDepth 5000 in
theorem pa_Law_law_307 : pr_Law_law[307]? = some (512, 1, .ireturn, [1]) := rfl
set_option maxRecDepth 5000 in
theorem pa_Law_law_308 : pr_Law_law[308]? = some (513, 1, .aload_n 1, []) := rfl
set_option maxRecDepth 5000 in
theorem pa_Law_law_309 : pr_Law_law[309]? = some (514, 1, .aload_n 0, []) := rfl
set_option maxRecDepth 5000 in
theorem pa_Law_law_310 : pr_Law_law[310]? = some (515, 2, .iload 4, []) := rfl
set_option maxRecDepth 5000 in
theorem pa_Law_law_311 : pr_Law_law[311]? = some (517, 1, .iconst 1, [1, 0]) := rfl
set_option maxRecDepth 5000 in
theorem pa_Law_law_312 : pr_Law_law[312]? = some (518, 1, .iadd, []) := rfl
set_option maxRecDepth 5000 in
theorem pa_Law_law_313 : pr_Law_law[313]? = some (519, 1, .iaload, [9]) := rfl
set_option maxRecDepth 5000 in
theorem pa_Law_law_314 : pr_Law_law[314]? = some (520, 1, .aload_n 3, []) := rfl
set_option maxRecDepth 5000 in
theorem pa_Law_law_315 : pr_Law_law[315]? = some (521, 3, .invokestatic 74, []) := rfl
set_option maxRecDepth 5000 in
theorem pa_Law_law_316 : pr_Law_law[316]? = some (524, 2, .istore 5, []) := rfl
set_option maxRecDepth 5000 in
theorem pa_Law_law_317 : pr_Law_law[317]? = some (526, 1, .aload_n 2, []) := rfl
set_option maxRecDepth 5000 in
theorem pa_Law_law_318 : pr_Law_law[318]? = some (527, 1, .aload_n 0, []) := rfl
set_option maxRecDepth 5000 in
theorem pa_Law_law_319 : pr_Law_law[319]? = some (528, 2, .iload 4, []) := rfl
set_option maxRecDepth 5000 in
theorem pa_Law_law_320 : pr_Law_law[320]? = some (530, 1, .iconst 1, [1, 0]) := rfl
set_option maxRecDepth 5000 in
theorem pa_Law_law_321 : pr_Law_law[321]? = some (531, 1, .iadd, []) := rfl
set_option maxRecDepth 5000 in
theorem pa_Law_law_322 : pr_Law_law[322]? = some (532, 1, .iaload, [9]) := rfl
set_option maxRecDepth 5000 in
theorem pa_Law_law_323 : pr_Law_law[323]? = some (533, 3, .invokevirtual 79, [70, 1, 7, 0, 798, 799, 800, 47]) := rfl
set_option maxRecDepth 5000 in
theorem pa_Law_law_324 : pr_Law_law[324]? = some (536, 2, .istore 6, []) := rfl
set_option maxRecDepth 5000 in
theorem pa_Law_law_325 : pr_Law_law[325]? = some (538, 1, .aload_n 2, []) := rfl
set_option maxRecDepth 5000 in
theorem pa_Law_law_326 : pr_Law_law[326]? = some (539, 3, .invokevirtual 80, [35, 0, 7, 0, 688, 689, 690, 47]) := rfl
set_option maxRecDepth 5000 in
theorem pa_Law_law_327 : pr_Law_law[327]? = some (542, 2, .iload 5, []) := rfl
set_option maxRecDepth 5000 in
theorem pa_Law_law_328 : pr_Law_law[328]? = some (544, 3, .if_icmp .eq (5), [331]) := rfl
set_option maxRecDepth 5000 in
theorem pa_Law_law_329 : pr_Law_law[329]? = some (547, 1, .iconst 0, [0, 0]) := rfl
set_option maxRecDepth 5000 in
theorem pa_Law_law_330 : pr_Law_law[330]? = some (548, 1, .ireturn, [1]) := rfl
set_option maxRecDepth 5000 in
theorem pa_Law_law_331 : pr_Law_law[331]? = some (549, 2, .iload 5, []) := rfl
set_option maxRecDepth 5000 in
theorem pa_Law_law_332 : pr_Law_law[332]? = some (551, 3, .ifCond .ne (15), [342]) := rfl
set_option maxRecDepth 5000 in
theorem pa_Law_law_333 : pr_Law_law[333]? = some (554, 1, .aload_n 3, []) := rfl
set_option maxRecDepth 5000 in
theorem pa_Law_law_334 : pr_Law_law[334]? = some (555, 1, .iconst 0, [0, 0]) := rfl
set_option maxRecDepth 5000 in
theorem pa_Law_law_335 : pr_Law_law[335]? = some (556, 1, .laload, []) := rfl
set_option maxRecDepth 5000 in
theorem pa_Law_law_336 : pr_Law_law[336]? = some (557, 2, .iload 6, []) := rfl
set_option maxRecDepth 5000 in
theorem pa_Law_law_337 : pr_Law_law[337]? = some (559, 1, .i2l, []) := rfl
set_option maxRecDepth 5000 in
theorem pa_Law_law_338 : pr_Law_law[338]? = some (560, 1, .lcmp, []) := rfl
set_option maxRecDepth 5000 in
theorem pa_Law_law_339 : pr_Law_law[339]? = some (561, 3, .ifCond .eq (5), [342]) := rfl
set_option maxRecDepth 5000 in
theorem pa_Law_law_340 : pr_Law_law[340]? = some (564, 1, .iconst 0, [0, 0]) := rfl
set_option maxRecDepth 5000 in
theorem pa_Law_law_341 : pr_Law_law[341]? = some (565, 1, .ireturn, [1]) := rfl
set_option maxRecDepth 5000 in
theorem pa_Law_law_342 : pr_Law_law[342]? = some (566, 3, .goto (133), [432]) := rfl
set_option maxRecDepth 5000 in
theorem pa_Law_law_343 : pr_Law_law[343]? = some (569, 1, .aload_n 1, []) := rfl
set_option maxRecDepth 5000 in
theorem pa_Law_law_344 : pr_Law_law[344]? = some (570, 1, .aload_n 0, []) := rfl
set_option maxRecDepth 5000 in
theorem pa_Law_law_345 : pr_Law_law[345]? = some (571, 2, .iload 4, []) := rfl
set_option maxRecDepth 5000 in
theorem pa_Law_law_346 : pr_Law_law[346]? = some (573, 1, .iconst 1, [1, 0]) := rfl
set_option maxRecDepth 5000 in
theorem pa_Law_law_347 : pr_Law_law[347]? = some (574, 1, .iadd, []) := rfl
set_option maxRecDepth 5000 in
theorem pa_Law_law_348 : pr_Law_law[348]? = some (575, 1, .iaload, [9]) := rfl
set_option maxRecDepth 5000 in
theorem pa_Law_law_349 : pr_Law_law[349]? = some (576, 3, .invokevirtual 83, [17, 1, 6, 0, 520, 521, 522, 40]) := rfl
set_option maxRecDepth 5000 in
theorem pa_Law_law_350 : pr_Law_law[350]? = some (579, 1, .aload_n 2, []) := rfl
set_option maxRecDepth 5000 in
theorem pa_Law_law_351 : pr_Law_law[351]? = some (580, 1, .aload_n 0, []) := rfl
set_option maxRecDepth 5000 in
theorem pa_Law_law_352 : pr_Law_law[352]? = some (581, 2, .iload 4, []) := rfl
set_option maxRecDepth 5000 in
theorem pa_Law_law_353 : pr_Law_law[353]? = some (583, 1, .iconst 1, [1, 0]) := rfl
set_option maxRecDepth 5000 in
theorem pa_Law_law_354 : pr_Law_law[354]? = some (584, 1, .iadd, []) := rfl
set_option maxRecDepth 5000 in
theorem pa_Law_law_355 : pr_Law_law[355]? = some (585, 1, .iaload, [9]) := rfl
set_option maxRecDepth 5000 in
theorem pa_Law_law_356 : pr_Law_law[356]? = some (586, 3, .invokevirtual 86, [26, 1, 7, 0, 802, 803, 804, 47]) := rfl
set_option maxRecDepth 5000 in
theorem pa_Law_law_357 : pr_Law_law[357]? = some (589, 3, .if_icmp .eq (110), [432]) := rfl
set_option maxRecDepth 5000 in
theorem pa_Law_law_358 : pr_Law_law[358]? = some (592, 1, .iconst 0, [0, 0]) := rfl
set_option maxRecDepth 5000 in
theorem pa_Law_law_359 : pr_Law_law[359]? = some (593, 1, .ireturn, [1]) := rfl
set_option maxRecDepth 5000 in
theorem pa_Law_law_360 : pr_Law_law[360]? = some (594, 1, .aload_n 1, []) := rfl
set_option maxRecDepth 5000 in
theorem pa_Law_law_361 : pr_Law_law[361]? = some (595, 1, .aload_n 0, []) := rfl
set_option maxRecDepth 5000 in
theorem pa_Law_law_362 : pr_Law_law[362]? = some (596, 2, .iload 4, []) := rfl
set_option maxRecDepth 5000 in
theorem pa_Law_law_363 : pr_Law_law[363]? = some (598, 1, .iconst 1, [1, 0]) := rfl
set_option maxRecDepth 5000 in
theorem pa_Law_law_364 : pr_Law_law[364]? = some (599, 1, .iadd, []) := rfl
set_option maxRecDepth 5000 in
theorem pa_Law_law_365 : pr_Law_law[365]? = some (600, 1, .iaload, [9]) := rfl
set_option maxRecDepth 5000 in
theorem pa_Law_law_366 : pr_Law_law[366]? = some (601, 1, .aload_n 0, []) := rfl
set_option maxRecDepth 5000 in
theorem pa_Law_law_367 : pr_Law_law[367]? = some (602, 2, .iload 4, []) := rfl
set_option maxRecDepth 5000 in
theorem pa_Law_law_368 : pr_Law_law[368]? = some (604, 1, .iconst 2, [2, 0]) := rfl
set_option maxRecDepth 5000 in
theorem pa_Law_law_369 : pr_Law_law[369]? = some (605, 1, .iadd, []) := rfl
set_option maxRecDepth 5000 in
theorem pa_Law_law_370 : pr_Law_law[370]? = some (606, 1, .iaload, [9]) := rfl
set_option maxRecDepth 5000 in
theorem pa_Law_law_371 : pr_Law_law[371]? = some (607, 1, .aload_n 3, []) := rfl
set_option maxRecDepth 5000 in
theorem pa_Law_law_372 : pr_Law_law[372]? = some (608, 3, .invokestatic 87, []) := rfl
set_option maxRecDepth 5000 in
theorem pa_Law_law_373 : pr_Law_law[373]? = some (611, 2, .istore 5, []) := rfl
set_option maxRecDepth 5000 in
theorem pa_Law_law_374 : pr_Law_law[374]? = some (613, 1, .aload_n 2, []) := rfl
set_option maxRecDepth 5000 in
theorem pa_Law_law_375 : pr_Law_law[375]? = some (614, 1, .aload_n 0, []) := rfl
set_option maxRecDepth 5000 in
theorem pa_Law_law_376 : pr_Law_law[376]? = some (615, 2, .iload 4, []) := rfl
set_option maxRecDepth 5000 in
theorem pa_Law_law_377 : pr_Law_law[377]? = some (617, 1, .iconst 1, [1, 0]) := rfl
set_option maxRecDepth 5000 in
theorem pa_Law_law_378 : pr_Law_law[378]? = some (618, 1, .iadd, []) := rfl
set_option maxRecDepth 5000 in
theorem pa_Law_law_379 : pr_Law_law[379]? = some (619, 1, .iaload, [9]) := rfl
set_option maxRecDepth 5000 in
theorem pa_Law_law_380 : pr_Law_law[380]? = some (620, 1, .aload_n 0, []) := rfl
set_option maxRecDepth 5000 in
theorem pa_Law_law_381 : pr_Law_law[381]? = some (621, 2, .iload 4, []) := rfl
set_option maxRecDepth 5000 in
theorem pa_Law_law_382 : pr_Law_law[382]? = some (623, 1, .iconst 2, [2, 0]) := rfl
set_option maxRecDepth 5000 in
theorem pa_Law_law_383 : pr_Law_law[383]? = some (624, 1, .iadd, []) := rfl
set_option maxRecDepth 5000 in
theorem pa_Law_law_384 : pr_Law_law[384]? = some (625, 1, .iaload, [9]) := rfl
set_option maxRecDepth 5000 in
theorem pa_Law_law_385 : pr_Law_law[385]? = some (626, 3, .invokevirtual 90, [62, 2, 7, 0, 806, 807, 808, 47]) := rfl
set_option maxRecDepth 5000 in
theorem pa_Law_law_386 : pr_Law_law[386]? = some (629, 2, .istore 6, []) := rfl
set_option maxRecDepth 5000 in
theorem pa_Law_law_387 : pr_Law_law[387]? = some (631, 1, .aload_n 2, []) := rfl
set_option maxRecDepth 5000 in
theorem pa_Law_law_388 : pr_Law_law[388]? = some (632, 3, .invokevirtual 80, [35, 0, 7, 0, 688, 689, 690, 47]) := rfl
set_option maxRecDepth 5000 in
theorem pa_Law_law_389 : pr_Law_law[389]? = some (635, 2, .iload 5, []) := rfl
set_option maxRecDepth 5000 in
theorem pa_Law_law_390 : pr_Law_law[390]? = some (637, 3, .if_icmp .eq (5), [393]) := rfl
set_option maxRecDepth 5000 in
theorem pa_Law_law_391 : pr_Law_law[391]? = some (640, 1, .iconst 0, [0, 0]) := rfl
set_option maxRecDepth 5000 in
theorem pa_Law_law_392 : pr_Law_law[392]? = some (641, 1, .ireturn, [1]) := rfl
set_option maxRecDepth 5000 in
theorem pa_Law_law_393 : pr_Law_law[393]? = some (642, 2, .iload 5, []) := rfl
set_option maxRecDepth 5000 in
theorem pa_Law_law_394 : pr_Law_law[394]? = some (644, 3, .ifCond .ne (15), [404]) := rfl
set_option maxRecDepth 5000 in
theorem pa_Law_law_395 : pr_Law_law[395]? = some (647, 1, .aload_n 3, []) := rfl
set_option maxRecDepth 5000 in
theorem pa_Law_law_396 : pr_Law_law[396]? = some (648, 1, .iconst 0, [0, 0]) := rfl
set_option maxRecDepth 5000 in
theorem pa_Law_law_397 : pr_Law_law[397]? = some (649, 1, .laload, []) := rfl
set_option maxRecDepth 5000 in
theorem pa_Law_law_398 : pr_Law_law[398]? = some (650, 2, .iload 6, []) := rfl
set_option maxRecDepth 5000 in
theorem pa_Law_law_399 : pr_Law_law[399]? = some (652, 1, .i2l, []) := rfl
set_option maxRecDepth 5000 in
theorem pa_Law_law_400 : pr_Law_law[400]? = some (653, 1, .lcmp, []) := rfl
set_option maxRecDepth 5000 in
theorem pa_Law_law_401 : pr_Law_law[401]? = some (654, 3, .ifCond .eq (5), [404]) := rfl
set_option maxRecDepth 5000 in
theorem pa_Law_law_402 : pr_Law_law[402]? = some (657, 1, .iconst 0, [0, 0]) := rfl
set_option maxRecDepth 5000 in
theorem pa_Law_law_403 : pr_Law_law[403]? = some (658, 1, .ireturn, [1]) := rfl
set_option maxRecDepth 5000 in
theorem pa_Law_law_404 : pr_Law_law[404]? = some (659, 3, .goto (40), [432]) := rfl
set_option maxRecDepth 5000 in
theorem pa_Law_law_405 : pr_Law_law[405]? = some (662, 1, .aload_n 1, []) := rfl
set_option maxRecDepth 5000 in
theorem pa_Law_law_406 : pr_Law_law[406]? = some (663, 1, .aload_n 0, []) := rfl
set_option maxRecDepth 5000 in
theorem pa_Law_law_407 : pr_Law_law[407]? = some (664, 2, .iload 4, []) := rfl
set_option maxRecDepth 5000 in
theorem pa_Law_law_408 : pr_Law_law[408]? = some (666, 1, .iconst 1, [1, 0]) := rfl
set_option maxRecDepth 5000 in
theorem pa_Law_law_409 : pr_Law_law[409]? = some (667, 1, .iadd, []) := rfl
set_option maxRecDepth 5000 in
theorem pa_Law_law_410 : pr_Law_law[410]? = some (668, 1, .iaload, [9]) := rfl
set_option maxRecDepth 5000 in
theorem pa_Law_law_411 : pr_Law_law[411]? = some (669, 1, .aload_n 0, []) := rfl
set_option maxRecDepth 5000 in
theorem pa_Law_law_412 : pr_Law_law[412]? = some (670, 2, .iload 4, []) := rfl
set_option maxRecDepth 5000 in
theorem pa_Law_law_413 : pr_Law_law[413]? = some (672, 1, .iconst 2, [2, 0]) := rfl
set_option maxRecDepth 5000 in
theorem pa_Law_law_414 : pr_Law_law[414]? = some (673, 1, .iadd, []) := rfl
set_option maxRecDepth 5000 in
theorem pa_Law_law_415 : pr_Law_law[415]? = some (674, 1, .iaload, [9]) := rfl
set_option maxRecDepth 5000 in
theorem pa_Law_law_416 : pr_Law_law[416]? = some (675, 3, .invokevirtual 91, [60, 2, 6, 0, 524, 525, 526, 40]) := rfl
set_option maxRecDepth 5000 in
theorem pa_Law_law_417 : pr_Law_law[417]? = some (678, 1, .aload_n 2, []) := rfl
set_option maxRecDepth 5000 in
theorem pa_Law_law_418 : pr_Law_law[418]? = some (679, 1, .aload_n 0, []) := rfl
set_option maxRecDepth 5000 in
theorem pa_Law_law_419 : pr_Law_law[419]? = some (680, 2, .iload 4, []) := rfl
set_option maxRecDepth 5000 in
theorem pa_Law_law_420 : pr_Law_law[420]? = some (682, 1, .iconst 1, [1, 0]) := rfl
set_option maxRecDepth 5000 in
theorem pa_Law_law_421 : pr_Law_law[421]? = some (683, 1, .iadd, []) := rfl
set_option maxRecDepth 5000 in
theorem pa_Law_law_422 : pr_Law_law[422]? = some (684, 1, .iaload, [9]) := rfl
set_option maxRecDepth 5000 in
theorem pa_Law_law_423 : pr_Law_law[423]? = some (685, 1, .aload_n 0, []) := rfl
set_option maxRecDepth 5000 in
theorem pa_Law_law_424 : pr_Law_law[424]? = some (686, 2, .iload 4, []) := rfl
set_option maxRecDepth 5000 in
theorem pa_Law_law_425 : pr_Law_law[425]? = some (688, 1, .iconst 2, [2, 0]) := rfl
set_option maxRecDepth 5000 in
theorem pa_Law_law_426 : pr_Law_law[426]? = some (689, 1, .iadd, []) := rfl
set_option maxRecDepth 5000 in
theorem pa_Law_law_427 : pr_Law_law[427]? = some (690, 1, .iaload, [9]) := rfl
set_option maxRecDepth 5000 in
theorem pa_Law_law_428 : pr_Law_law[428]? = some (691, 3, .invokevirtual 94, [72, 2, 7, 0, 692, 693, 694, 47]) := rfl
set_option maxRecDepth 5000 in
theorem pa_Law_law_429 : pr_Law_law[429]? = some (694, 3, .if_icmp .eq (5), [432]) := rfl
set_option maxRecDepth 5000 in
theorem pa_Law_law_430 : pr_Law_law[430]? = some (697, 1, .iconst 0, [0, 0]) := rfl
set_option maxRecDepth 5000 in
theorem pa_Law_law_431 : pr_Law_law[431]? = some (698, 1, .ireturn, [1]) := rfl
set_option maxRecDepth 5000 in
theorem pa_Law_law_432 : pr_Law_law[432]? = some (699, 3, .iinc 4 (6), [6, 0]) := rfl
set_option maxRecDepth 5000 in
theorem pa_Law_law_433 : pr_Law_law[433]? = some (702, 3, .goto (-679), [13]) := rfl
set_option maxRecDepth 5000 in
theorem pa_Law_law_434 : pr_Law_law[434]? = some (705, 1, .iconst 1, [1, 0]) := rfl
set_option maxRecDepth 5000 in
theorem pa_Law_law_435 : pr_Law_law[435]? = some (706, 1, .ireturn, [1]) := rfl
def pc_Law_law_0 := And.intro pa_Law_law_0 (And.intro pa_Law_law_1 (And.intro pa_Law_law_2 (And.intro pa_Law_law_3 (And.intro pa_Law_law_4 (And.intro pa_Law_law_5 (And.intro pa_Law_law_6 (And.intro pa_Law_law_7 (And.intro pa_Law_law_8 (And.intro pa_Law_law_9 (And.intro pa_Law_law_10 (And.intro pa_Law_law_11 (And.intro pa_Law_law_12 (And.intro pa_Law_law_13 (And.intro pa_Law_law_14 (And.intro pa_Law_law_15 (And.intro pa_Law_law_16 (And.intro pa_Law_law_17 (And.intro pa_Law_law_18 (And.intro pa_Law_law_19 (And.intro pa_Law_law_20 (And.intro pa_Law_law_21 (And.intro pa_Law_law_22 (And.intro pa_Law_law_23 (And.intro pa_Law_law_24 (And.intro pa_Law_law_25 (And.intro pa_Law_law_26 (And.intro pa_Law_law_27 (And.intro pa_Law_law_28 (And.intro pa_Law_law_29 (And.intro pa_Law_law_30 (And.intro pa_Law_law_31 (And.intro pa_Law_law_32 (And.intro pa_Law_law_33 (And.intro pa_Law_law_34 (And.intro pa_Law_law_35 (And.intro pa_Law_law_36 (And.intro pa_Law_law_37 (And.intro pa_Law_law_38 (pa_Law_law_39)))))))))))))))))))))))))))))))))))))))
def pc_Law_law_1 := And.intro pa_Law_law_40 (And.intro pa_Law_law_41 (And.intro pa_Law_law_42 (And.intro pa_Law_law_43 (And.intro pa_Law_law_44 (And.intro pa_Law_law_45 (And.intro pa_Law_law_46 (And.intro pa_Law_law_47 (And.intro pa_Law_law_48 (And.intro pa_Law_law_49 (And.intro pa_Law_law_50 (And.intro pa_Law_law_51 (And.intro pa_Law_law_52 (And.intro pa_Law_law_53 (And.intro pa_Law_law_54 (And.intro pa_Law_law_55 (And.intro pa_Law_law_56 (And.intro pa_Law_law_57 (And.intro pa_Law_law_58 (And.intro pa_Law_law_59 (And.intro pa_Law_law_60 (And.intro pa_Law_law_61 (And.intro pa_Law_law_62 (And.intro pa_Law_law_63 (And.intro pa_Law_law_64 (And.intro pa_Law_law_65 (And.intro pa_Law_law_66 (And.intro pa_Law_law_67 (And.intro pa_Law_law_68 (And.intro pa_Law_law_69 (And.intro pa_Law_law_70 (And.intro pa_Law_law_71 (And.intro pa_Law_law_72 (And.intro pa_Law_law_73 (And.intro pa_Law_law_74 (And.intro pa_Law_law_75 (And.intro pa_Law_law_76 (And.intro pa_Law_law_77 (And.intro pa_Law_law_78 (pa_Law_law_79)))))))))))))))))))))))))))))))))))))))
def pc_Law_law_2 := And.intro pa_Law_law_80 (And.intro pa_Law_law_81 (And.intro pa_Law_law_82 (And.intro pa_Law_law_83 (And.intro pa_Law_law_84 (And.intro pa_Law_law_85 (And.intro pa_Law_law_86 (And.intro pa_Law_law_87 (And.intro pa_Law_law_88 (And.intro pa_Law_law_89 (And.intro pa_Law_law_90 (And.intro pa_Law_law_91 (And.intro pa_Law_law_92 (And.intro pa_Law_law_93 (And.intro pa_Law_law_94 (And.intro pa_Law_law_95 (And.intro pa_Law_law_96 (And.intro pa_Law_law_97 (And.intro pa_Law_law_98 (And.intro pa_Law_law_99 (And.intro pa_Law_law_100 (And.intro pa_Law_law_101 (And.intro pa_Law_law_102 (And.intro pa_Law_law_103 (And.intro pa_Law_law_104 (And.intro pa_Law_law_105 (And.intro pa_Law_law_106 (And.intro pa_Law_law_107 (And.intro pa_Law_law_108 (And.intro pa_Law_law_109 (And.intro pa_Law_law_110 (And.intro pa_Law_law_111 (And.intro pa_Law_law_112 (And.intro pa_Law_law_113 (And.intro pa_Law_law_114 (And.intro pa_Law_law_115 (And.intro pa_Law_law_116 (And.intro pa_Law_law_117 (And.intro pa_Law_law_118 (pa_Law_law_119)))))))))))))))))))))))))))))))))))))))
def pc_Law_law_3 := And.intro pa_Law_law_120 (And.intro pa_Law_law_121 (And.intro pa_Law_law_122 (And.intro pa_Law_law_123 (And.intro pa_Law_law_124 (And.intro pa_Law_law_125 (And.intro pa_Law_law_126 (And.intro pa_Law_law_127 (And.intro pa_Law_law_128 (And.intro pa_Law_law_129 (And.intro pa_Law_law_130 (And.intro pa_Law_law_131 (And.intro pa_Law_law_132 (And.intro pa_Law_law_133 (And.intro pa_Law_law_134 (And.intro pa_Law_law_135 (And.intro pa_Law_law_136 (And.intro pa_Law_law_137 (And.intro pa_Law_law_138 (And.intro pa_Law_law_139 (And.intro pa_Law_law_140 (And.intro pa_Law_law_141 (And.intro pa_Law_law_142 (And.intro pa_Law_law_143 (And.intro pa_Law_law_144 (And.intro pa_Law_law_145 (And.intro pa_Law_law_146 (And.intro pa_Law_law_147 (And.intro pa_Law_law_148 (And.intro pa_Law_law_149 (And.intro pa_Law_law_150 (And.intro pa_Law_law_151 (And.intro pa_Law_law_152 (And.intro pa_Law_law_153 (And.intro pa_Law_law_154 (And.intro pa_Law_law_155 (And.intro pa_Law_law_156 (And.intro pa_Law_law_157 (And.intro pa_Law_law_158 (pa_Law_law_159)))))))))))))))))))))))))))))))))))))))
def pc_Law_law_4 := And.intro pa_Law_law_160 (And.intro pa_Law_law_161 (And.intro pa_Law_law_162 (And.intro pa_Law_law_163 (And.intro pa_Law_law_164 (And.intro pa_Law_law_165 (And.intro pa_Law_law_166 (And.intro pa_Law_law_167 (And.intro pa_Law_law_168 (And.intro pa_Law_law_169 (And.intro pa_Law_law_170 (And.intro pa_Law_law_171 (And.intro pa_Law_law_172 (And.intro pa_Law_law_173 (And.intro pa_Law_law_174 (And.intro pa_Law_law_175 (And.intro pa_Law_law_176 (And.intro pa_Law_law_177 (And.intro pa_Law_law_178 (And.intro pa_Law_law_179 (And.intro pa_Law_law_180 (And.intro pa_Law_law_181 (And.intro pa_Law_law_182 (And.intro pa_Law_law_183 (And.intro pa_Law_law_184 (And.intro pa_Law_law_185 (And.intro pa_Law_law_186 (And.intro pa_Law_law_187 (And.intro pa_Law_law_188 (And.intro pa_Law_law_189 (And.intro pa_Law_law_190 (And.intro pa_Law_law_191 (And.intro pa_Law_law_192 (And.intro pa_Law_law_193 (And.intro pa_Law_law_194 (And.intro pa_Law_law_195 (And.intro pa_Law_law_196 (And.intro pa_Law_law_197 (And.intro pa_Law_law_198 (pa_Law_law_199)))))))))))))))))))))))))))))))))))))))
def pc_Law_law_5 := And.intro pa_Law_law_200 (And.intro pa_Law_law_201 (And.intro pa_Law_law_202 (And.intro pa_Law_law_203 (And.intro pa_Law_law_204 (And.intro pa_Law_law_205 (And.intro pa_Law_law_206 (And.intro pa_Law_law_207 (And.intro pa_Law_law_208 (And.intro pa_Law_law_209 (And.intro pa_Law_law_210 (And.intro pa_Law_law_211 (And.intro pa_Law_law_212 (And.intro pa_Law_law_213 (And.intro pa_Law_law_214 (And.intro pa_Law_law_215 (And.intro pa_Law_law_216 (And.intro pa_Law_law_217 (And.intro pa_Law_law_218 (And.intro pa_Law_law_219 (And.intro pa_Law_law_220 (And.intro pa_Law_law_221 (And.intro pa_Law_law_222 (And.intro pa_Law_law_223 (And.intro pa_Law_law_224 (And.intro pa_Law_law_225 (And.intro pa_Law_law_226 (And.intro pa_Law_law_227 (And.intro pa_Law_law_228 (And.intro pa_Law_law_229 (And.intro pa_Law_law_230 (And.intro pa_Law_law_231 (And.intro pa_Law_law_232 (And.intro pa_Law_law_233 (And.intro pa_Law_law_234 (And.intro pa_Law_law_235 (And.intro pa_Law_law_236 (And.intro pa_Law_law_237 (And.intro pa_Law_law_238 (pa_Law_law_239)))))))))))))))))))))))))))))))))))))))
def pc_Law_law_6 := And.intro pa_Law_law_240 (And.intro pa_Law_law_241 (And.intro pa_Law_law_242 (And.intro pa_Law_law_243 (And.intro pa_Law_law_244 (And.intro pa_Law_law_245 (And.intro pa_Law_law_246 (And.intro pa_Law_law_247 (And.intro pa_Law_law_248 (And.intro pa_Law_law_249 (And.intro pa_Law_law_250 (And.intro pa_Law_law_251 (And.intro pa_Law_law_252 (And.intro pa_Law_law_253 (And.intro pa_Law_law_254 (And.intro pa_Law_law_255 (And.intro pa_Law_law_256 (And.intro pa_Law_law_257 (And.intro pa_Law_law_258 (And.intro pa_Law_law_259 (And.intro pa_Law_law_260 (And.intro pa_Law_law_261 (And.intro pa_Law_law_262 (And.intro pa_Law_law_263 (And.intro pa_Law_law_264 (And.intro pa_Law_law_265 (And.intro pa_Law_law_266 (And.intro pa_Law_law_267 (And.intro pa_Law_law_268 (And.intro pa_Law_law_269 (And.intro pa_Law_law_270 (And.intro pa_Law_law_271 (And.intro pa_Law_law_272 (And.intro pa_Law_law_273 (And.intro pa_Law_law_274 (And.intro pa_Law_law_275 (And.intro pa_Law_law_276 (And.intro pa_Law_law_277 (And.intro pa_Law_law_278 (pa_Law_law_279)))))))))))))))))))))))))))))))))))))))
def pc_Law_law_7 := And.intro pa_Law_law_280 (And.intro pa_Law_law_281 (And.intro pa_Law_law_282 (And.intro pa_Law_law_283 (And.intro pa_Law_law_284 (And.intro pa_Law_law_285 (And.intro pa_Law_law_286 (And.intro pa_Law_law_287 (And.intro pa_Law_law_288 (And.intro pa_Law_law_289 (And.intro pa_Law_law_290 (And.intro pa_Law_law_291 (And.intro pa_Law_law_292 (And.intro pa_Law_law_293 (And.intro pa_Law_law_294 (And.intro pa_Law_law_295 (And.intro pa_Law_law_296 (And.intro pa_Law_law_297 (And.intro pa_Law_law_298 (And.intro pa_Law_law_299 (And.intro pa_Law_law_300 (And.intro pa_Law_law_301 (And.intro pa_Law_law_302 (And.intro pa_Law_law_303 (And.intro pa_Law_law_304 (And.intro pa_Law_law_305 (And.intro pa_Law_law_306 (And.intro pa_Law_law_307 (And.intro pa_Law_law_308 (And.intro pa_Law_law_309 (And.intro pa_Law_law_310 (And.intro pa_Law_law_311 (And.intro pa_Law_law_312 (And.intro pa_Law_law_313 (And.intro pa_Law_law_314 (And.intro pa_Law_law_315 (And.intro pa_Law_law_316 (And.intro pa_Law_law_317 (And.intro pa_Law_law_318 (pa_Law_law_319)))))))))))))))))))))))))))))))))))))))
def pc_Law_law_8 := And.intro pa_Law_law_320 (And.intro pa_Law_law_321 (And.intro pa_Law_law_322 (And.intro pa_Law_law_323 (And.intro pa_Law_law_324 (And.intro pa_Law_law_325 (And.intro pa_Law_law_326 (And.intro pa_Law_law_327 (And.intro pa_Law_law_328 (And.intro pa_Law_law_329 (And.intro pa_Law_law_330 (And.intro pa_Law_law_331 (And.intro pa_Law_law_332 (And.intro pa_Law_law_333 (And.intro pa_Law_law_334 (And.intro pa_Law_law_335 (And.intro pa_Law_law_336 (And.intro pa_Law_law_337 (And.intro pa_Law_law_338 (And.intro pa_Law_law_339 (And.intro pa_Law_law_340 (And.intro pa_Law_law_341 (And.intro pa_Law_law_342 (And.intro pa_Law_law_343 (And.intro pa_Law_law_344 (And.intro pa_Law_law_345 (And.intro pa_Law_law_346 (And.intro pa_Law_law_347 (And.intro pa_Law_law_348 (And.intro pa_Law_law_349 (And.intro pa_Law_law_350 (And.intro pa_Law_law_351 (And.intro pa_Law_law_352 (And.intro pa_Law_law_353 (And.intro pa_Law_law_354 (And.intro pa_Law_law_355 (And.intro pa_Law_law_356 (And.intro pa_Law_law_357 (And.intro pa_Law_law_358 (pa_Law_law_359)))))))))))))))))))))))))))))))))))))))
def pc_Law_law_9 := And.intro pa_Law_law_360 (And.intro pa_Law_law_361 (And.intro pa_Law_law_362 (And.intro pa_Law_law_363 (And.intro pa_Law_law_364 (And.intro pa_Law_law_365 (And.intro pa_Law_law_366 (And.intro pa_Law_law_367 (And.intro pa_Law_law_368 (And.intro pa_Law_law_369 (And.intro pa_Law_law_370 (And.intro pa_Law_law_371 (And.intro pa_Law_law_372 (And.intro pa_Law_law_373 (And.intro pa_Law_law_374 (And.intro pa_Law_law_375 (And.intro pa_Law_law_376 (And.intro pa_Law_law_377 (And.intro pa_Law_law_378 (And.intro pa_Law_law_379 (And.intro pa_Law_law_380 (And.intro pa_Law_law_381 (And.intro pa_Law_law_382 (And.intro pa_Law_law_383 (And.intro pa_Law_law_384 (And.intro pa_Law_law_385 (And.intro pa_Law_law_386 (And.intro pa_Law_law_387 (And.intro pa_Law_law_388 (And.intro pa_Law_law_389 (And.intro pa_Law_law_390 (And.intro pa_Law_law_391 (And.intro pa_Law_law_392 (And.intro pa_Law_law_393 (And.intro pa_Law_law_394 (And.intro pa_Law_law_395 (And.intro pa_Law_law_396 (And.intro pa_Law_law_397 (And.intro pa_Law_law_398 (pa_Law_law_399)))))))))))))))))))))))))))))))))))))))
def pc_Law_law_10 := And.intro pa_Law_law_400 (And.intro pa_Law_law_401 (And.intro pa_Law_law_402 (And.intro pa_Law_law_403 (And.intro pa_Law_law_404 (And.intro pa_Law_law_405 (And.intro pa_Law_law_406 (And.intro pa_Law_law_407 (And.intro pa_Law_law_408 (And.intro pa_Law_law_409 (And.intro pa_Law_law_410 (And.intro pa_Law_law_411 (And.intro pa_Law_law_412 (And.intro pa_Law_law_413 (And.intro pa_Law_law_414 (And.intro pa_Law_law_415 (And.intro pa_Law_law_416 (And.intro pa_Law_law_417 (And.intro pa_Law_law_418 (And.intro pa_Law_law_419 (And.intro pa_Law_law_420 (And.intro pa_Law_law_421 (And.intro pa_Law_law_422 (And.intro pa_Law_law_423 (And.intro pa_Law_law_424 (And.intro pa_Law_law_425 (And.intro pa_Law_law_426 (And.intro pa_Law_law_427 (And.intro pa_Law_law_428 (And.intro pa_Law_law_429 (And.intro pa_Law_law_430 (And.intro pa_Law_law_431 (And.intro pa_Law_law_432 (And.intro pa_Law_law_433 (And.intro pa_Law_law_434 (pa_Law_law_435)))))))))))))))))))))))))))))))))))
