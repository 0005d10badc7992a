/-! the methods as tables -/
def pr_Arc_spellStrand : List ma_E := [(0, 1, .iload_n 2, []),
  (1, 1, .iconst 4, [4, 0]),
  (2, 1, .imul, []),
  (3, 1, .istore_n 3, []),
  (4, 1, .aload_n 0, []),
  (5, 3, .getfield 53, [6, 8, 2, 0, 230]),
  (8, 1, .iconst 0, [0, 0]),
  (9, 3, .sipush 256, [256, 0]),
  (12, 1, .iload_n 1, []),
  (13, 1, .imul, []),
  (14, 1, .iload_n 2, []),
  (15, 1, .iadd, []),
  (16, 3, .invokevirtual 166, [75, 2, 2, 0, 345, 346, 347, 44]),
  (19, 1, .aload_n 0, []),
  (20, 3, .getfield 53, [6, 8, 2, 0, 230]),
  (23, 1, .iconst 1, [1, 0]),
  (24, 3, .sipush 256, [256, 0]),
  (27, 1, .aload_n 0, []),
  (28, 3, .getfield 47, [6, 7, 2, 0, 229]),
  (31, 1, .iload_n 3, []),
  (32, 1, .iaload, []),
  (33, 1, .imul, []),
  (34, 1, .aload_n 0, []),
  (35, 3, .getfield 47, [6, 7, 2, 0, 229]),
  (38, 1, .iload_n 3, []),
  (39, 1, .iconst 1, [1, 0]),
  (40, 1, .iadd, []),
  (41, 1, .iaload, []),
  (42, 1, .iadd, []),
  (43, 3, .invokevirtual 166, [75, 2, 2, 0, 345, 346, 347, 44]),
  (46, 1, .aload_n 0, []),
  (47, 3, .getfield 53, [6, 8, 2, 0, 230]),
  (50, 1, .iconst 2, [2, 0]),
  (51, 3, .sipush 256, [256, 0]),
  (54, 1, .aload_n 0, []),
  (55, 3, .getfield 47, [6, 7, 2, 0, 229]),
  (58, 1, .iload_n 3, []),
  (59, 1, .iconst 2, [2, 0]),
  (60, 1, .iadd, []),
  (61, 1, .iaload, []),
  (62, 1, .imul, []),
  (63, 1, .aload_n 0, []),
  (64, 3, .getfield 47, [6, 7, 2, 0, 229]),
  (67, 1, .iload_n 3, []),
  (68, 1, .iconst 3, [3, 0]),
  (69, 1, .iadd, []),
  (70, 1, .iaload, []),
  (71, 1, .iadd, []),
  (72, 3, .invokevirtual 166, [75, 2, 2, 0, 345, 346, 347, 44]),
  (75, 1, .aload_n 0, []),
  (76, 3, .getfield 17, [6, 1, 2, 0, 223]),
  (79, 1, .iload_n 1, []),
  (80, 2, .bipush 16, [16, 0]),
  (82, 1, .imul, []),
  (83, 1, .iload_n 2, []),
  (84, 1, .iadd, []),
  (85, 1, .aaload, []),
  (86, 2, .astore 4, []),
  (88, 2, .aload 4, []),
  (90, 1, .lconst 0, [0]),
  (91, 1, .lconst 0, [0]),
  (92, 1, .iconst 0, [0, 0]),
  (93, 3, .invokevirtual 107, [3, 3, 0, 0, 362, 363, 364, 41]),
  (96, 1, .iconst 0, [0, 0]),
  (97, 2, .istore 5, []),
  (99, 2, .iload 5, []),
  (101, 2, .bipush 33, [33, 0]),
  (103, 3, .if_icmp .ge (24), [77]),
  (106, 2, .aload 4, []),
  (108, 1, .aload_n 0, []),
  (109, 3, .getfield 53, [6, 8, 2, 0, 230]),
  (112, 3, .getfield 169, [2, 0, 2, 1, 7]),
  (115, 2, .iload 5, []),
  (117, 1, .iaload, []),
  (118, 3, .invokevirtual 115, [1, 1, 0, 0, 366, 367, 368, 41]),
  (121, 3, .iinc 5 (1), [1, 0]),
  (124, 3, .goto (-25), [65]),
  (127, 1, .aload_n 0, []),
  (128, 3, .getfield 53, [6, 8, 2, 0, 230]),
  (131, 3, .invokevirtual 172, [9, 0, 2, 0, 370, 371, 372, 44]),
  (134, 2, .istore 5, []),
  (136, 2, .aload 4, []),
  (138, 1, .aload_n 0, []),
  (139, 3, .getfield 53, [6, 8, 2, 0, 230]),
  (142, 3, .invokevirtual 176, [10, 0, 2, 0, 374, 375, 376, 44]),
  (145, 3, .invokestatic 179, [57, 2, 0, 378, 379, 40]),
  (148, 2, .aload 4, []),
  (150, 2, .iload 5, []),
  (152, 2, .bipush 16, [16, 0]),
  (154, 1, .idiv, []),
  (155, 3, .invokestatic 179, [57, 2, 0, 378, 379, 40]),
  (158, 2, .aload 4, []),
  (160, 2, .iload 5, []),
  (162, 1, .iconst 4, [4, 0]),
  (163, 1, .idiv, []),
  (164, 1, .iconst 4, [4, 0]),
  (165, 1, .irem, []),
  (166, 3, .invokestatic 179, [57, 2, 0, 378, 379, 40]),
  (169, 2, .aload 4, []),
  (171, 2, .iload 5, []),
  (173, 1, .iconst 4, [4, 0]),
  (174, 1, .irem, []),
  (175, 3, .invokestatic 179, [57, 2, 0, 378, 379, 40]),
  (178, 1, .return_, [])]
theorem po_Arc_spellStrand : ma_ok me_Arc_spellStrand pr_Arc_spellStrand := ma_ok_of (by decide +kernel)
theorem pa_Arc_spellStrand_0 : pr_Arc_spellStrand[0]? = some (0, 1, .iload_n 2, []) := rfl
theorem pa_Arc_spellStrand_1 : pr_Arc_spellStrand[1]? = some (1, 1, .iconst 4, [4, 0]) := rfl
theorem pa_Arc_spellStrand_2 : pr_Arc_spellStrand[2]? = some (2, 1, .imul, []) := rfl
theorem pa_Arc_spellStrand_3 : pr_Arc_spellStrand[3]? = some (3, 1, .istore_n 3, []) := rfl
theorem pa_Arc_spellStrand_4 : pr_Arc_spellStrand[4]? = some (4, 1, .aload_n 0, []) := rfl
theorem pa_Arc_spellStrand_5 : pr_Arc_spellStrand[5]? = some (5, 3, .getfield 53, [6, 8, 2, 0, 230]) := rfl
theorem pa_Arc_spellStrand_6 : pr_Arc_spellStrand[6]? = some (8, 1, .iconst 0, [0, 0]) := rfl
theorem pa_Arc_spellStrand_7 : pr_Arc_spellStrand[7]? = some (9, 3, .sipush 256, [256, 0]) := rfl
theorem pa_Arc_spellStrand_8 : pr_Arc_spellStrand[8]? = some (12, 1, .iload_n 1, []) := rfl
theorem pa_Arc_spellStrand_9 : pr_Arc_spellStrand[9]? = some (13, 1, .imul, []) := rfl
theorem pa_Arc_spellStrand_10 : pr_Arc_spellStrand[10]? = some (14, 1, .iload_n 2, []) := rfl
theorem pa_Arc_spellStrand_11 : pr_Arc_spellStrand[11]? = some (15, 1, .iadd, []) := rfl
theorem pa_Arc_spellStrand_12 : pr_Arc_spellStrand[12]? = some (16, 3, .invokevirtual 166, [75, 2, 2, 0, 345, 346, 347, 44]) := rfl
theorem pa_Arc_spellStrand_13 : pr_Arc_spellStrand[13]? = some (19, 1, .aload_n 0, []) := rfl
theorem pa_Arc_spellStrand_14 : pr_Arc_spellStrand[14]? = some (20, 3, .getfield 53, [6, 8, 2, 0, 230]) := rfl
theorem pa_Arc_spellStrand_15 : pr_Arc_spellStrand[15]? = some (23, 1, .iconst 1, [1, 0]) := rfl
theorem pa_Arc_spellStrand_16 : pr_Arc_spellStrand[16]? = some (24, 3, .sipush 256, [256, 0]) := rfl
theorem pa_Arc_spellStrand_17 : pr_Arc_spellStrand[17]? = some (27, 1, .aload_n 0, []) := rfl
theorem pa_Arc_spellStrand_18 : pr_Arc_spellStrand[18]? = some (28, 3, .getfield 47, [6, 7, 2, 0, 229]) := rfl
theorem pa_Arc_spellStrand_19 : pr_Arc_spellStrand[19]? = some (31, 1, .iload_n 3, []) := rfl
theorem pa_Arc_spellStrand_20 : pr_Arc_spellStrand[20]? = some (32, 1, .iaload, []) := rfl
theorem pa_Arc_spellStrand_21 : pr_Arc_spellStrand[21]? = some (33, 1, .imul, []) := rfl
theorem pa_Arc_spellStrand_22 : pr_Arc_spellStrand[22]? = some (34, 1, .aload_n 0, []) := rfl
theorem pa_Arc_spellStrand_23 : pr_Arc_spellStrand[23]? = some (35, 3, .getfield 47, [6, 7, 2, 0, 229]) := rfl
theorem pa_Arc_spellStrand_24 : pr_Arc_spellStrand[24]? = some (38, 1, .iload_n 3, []) := rfl
theorem pa_Arc_spellStrand_25 : pr_Arc_spellStrand[25]? = some (39, 1, .iconst 1, [1, 0]) := rfl
theorem pa_Arc_spellStrand_26 : pr_Arc_spellStrand[26]? = some (40, 1, .iadd, []) := rfl
theorem pa_Arc_spellStrand_27 : pr_Arc_spellStrand[27]? = some (41, 1, .iaload, []) := rfl
theorem pa_Arc_spellStrand_28 : pr_Arc_spellStrand[28]? = some (42, 1, .iadd, []) := rfl
theorem pa_Arc_spellStrand_29 : pr_Arc_spellStrand[29]? = some (43, 3, .invokevirtual 166, [75, 2, 2, 0, 345, 346, 347, 44]) := rfl
theorem pa_Arc_spellStrand_30 : pr_Arc_spellStrand[30]? = some (46, 1, .aload_n 0, []) := rfl
theorem pa_Arc_spellStrand_31 : pr_Arc_spellStrand[31]? = some (47, 3, .getfield 53, [6, 8, 2, 0, 230]) := rfl
theorem pa_Arc_spellStrand_32 : pr_Arc_spellStrand[32]? = some (50, 1, .iconst 2, [2, 0]) := rfl
theorem pa_Arc_spellStrand_33 : pr_Arc_spellStrand[33]? = some (51, 3, .sipush 256, [256, 0]) := rfl
theorem pa_Arc_spellStrand_34 : pr_Arc_spellStrand[34]? = some (54, 1, .aload_n 0, []) := rfl
theorem pa_Arc_spellStrand_35 : pr_Arc_spellStrand[35]? = some (55, 3, .getfield 47, [6, 7, 2, 0, 229]) := rfl
theorem pa_Arc_spellStrand_36 : pr_Arc_spellStrand[36]? = some (58, 1, .iload_n 3, []) := rfl
theorem pa_Arc_spellStrand_37 : pr_Arc_spellStrand[37]? = some (59, 1, .iconst 2, [2, 0]) := rfl
theorem pa_Arc_spellStrand_38 : pr_Arc_spellStrand[38]? = some (60, 1, .iadd, []) := rfl
theorem pa_Arc_spellStrand_39 : pr_Arc_spellStrand[39]? = some (61, 1, .iaload, []) := rfl
theorem pa_Arc_spellStrand_40 : pr_Arc_spellStrand[40]? = some (62, 1, .imul, []) := rfl
theorem pa_Arc_spellStrand_41 : pr_Arc_spellStrand[41]? = some (63, 1, .aload_n 0, []) := rfl
theorem pa_Arc_spellStrand_42 : pr_Arc_spellStrand[42]? = some (64, 3, .getfield 47, [6, 7, 2, 0, 229]) := rfl
theorem pa_Arc_spellStrand_43 : pr_Arc_spellStrand[43]? = some (67, 1, .iload_n 3, []) := rfl
theorem pa_Arc_spellStrand_44 : pr_Arc_spellStrand[44]? = some (68, 1, .iconst 3, [3, 0]) := rfl
theorem pa_Arc_spellStrand_45 : pr_Arc_spellStrand[45]? = some (69, 1, .iadd, []) := rfl
theorem pa_Arc_spellStrand_46 : pr_Arc_spellStrand[46]? = some (70, 1, .iaload, []) := rfl
theorem pa_Arc_spellStrand_47 : pr_Arc_spellStrand[47]? = some (71, 1, .iadd, []) := rfl
theorem pa_Arc_spellStrand_48 : pr_Arc_spellStrand[48]? = some (72, 3, .invokevirtual 166, [75, 2, 2, 0, 345, 346, 347, 44]) := rfl
theorem pa_Arc_spellStrand_49 : pr_Arc_spellStrand[49]? = some (75, 1, .aload_n 0, []) := rfl
theorem pa_Arc_spellStrand_50 : pr_Arc_spellStrand[50]? = some (76, 3, .getfield 17, [6, 1, 2, 0, 223]) := rfl
theorem pa_Arc_spellStrand_51 : pr_Arc_spellStrand[51]? = some (79, 1, .iload_n 1, []) := rfl
theorem pa_Arc_spellStrand_52 : pr_Arc_spellStrand[52]? = some (80, 2, .bipush 16, [16, 0]) := rfl
theorem pa_Arc_spellStrand_53 : pr_Arc_spellStrand[53]? = some (82, 1, .imul, []) := rfl
theorem pa_Arc_spellStrand_54 : pr_Arc_spellStrand[54]? = some (83, 1, .iload_n 2, []) := rfl
theorem pa_Arc_spellStrand_55 : pr_Arc_spellStrand[55]? = some (84, 1, .iadd, []) := rfl
theorem pa_Arc_spellStrand_56 : pr_Arc_spellStrand[56]? = some (85, 1, .aaload, []) := rfl
theorem pa_Arc_spellStrand_57 : pr_Arc_spellStrand[57]? = some (86, 2, .astore 4, []) := rfl
theorem pa_Arc_spellStrand_58 : pr_Arc_spellStrand[58]? = some (88, 2, .aload 4, []) := rfl
theorem pa_Arc_spellStrand_59 : pr_Arc_spellStrand[59]? = some (90, 1, .lconst 0, [0]) := rfl
theorem pa_Arc_spellStrand_60 : pr_Arc_spellStrand[60]? = some (91, 1, .lconst 0, [0]) := rfl
theorem pa_Arc_spellStrand_61 : pr_Arc_spellStrand[61]? = some (92, 1, .iconst 0, [0, 0]) := rfl
theorem pa_Arc_spellStrand_62 : pr_Arc_spellStrand[62]? = some (93, 3, .invokevirtual 107, [3, 3, 0, 0, 362, 363, 364, 41]) := rfl
theorem pa_Arc_spellStrand_63 : pr_Arc_spellStrand[63]? = some (96, 1, .iconst 0, [0, 0]) := rfl
theorem pa_Arc_spellStrand_64 : pr_Arc_spellStrand[64]? = some (97, 2, .istore 5, []) := rfl
theorem pa_Arc_spellStrand_65 : pr_Arc_spellStrand[65]? = some (99, 2, .iload 5, []) := rfl
theorem pa_Arc_spellStrand_66 : pr_Arc_spellStrand[66]? = some (101, 2, .bipush 33, [33, 0]) := rfl
theorem pa_Arc_spellStrand_67 : pr_Arc_spellStrand[67]? = some (103, 3, .if_icmp .ge (24), [77]) := rfl
theorem pa_Arc_spellStrand_68 : pr_Arc_spellStrand[68]? = some (106, 2, .aload 4, []) := rfl
theorem pa_Arc_spellStrand_69 : pr_Arc_spellStrand[69]? = some (108, 1, .aload_n 0, []) := rfl
theorem pa_Arc_spellStrand_70 : pr_Arc_spellStrand[70]? = some (109, 3, .getfield 53, [6, 8, 2, 0, 230]) := rfl
theorem pa_Arc_spellStrand_71 : pr_Arc_spellStrand[71]? = some (112, 3, .getfield 169, [2, 0, 2, 1, 7]) := rfl
theorem pa_Arc_spellStrand_72 : pr_Arc_spellStrand[72]? = some (115, 2, .iload 5, []) := rfl
theorem pa_Arc_spellStrand_73 : pr_Arc_spellStrand[73]? = some (117, 1, .iaload, []) := rfl
theorem pa_Arc_spellStrand_74 : pr_Arc_spellStrand[74]? = some (118, 3, .invokevirtual 115, [1, 1, 0, 0, 366, 367, 368, 41]) := rfl
theorem pa_Arc_spellStrand_75 : pr_Arc_spellStrand[75]? = some (121, 3, .iinc 5 (1), [1, 0]) := rfl
theorem pa_Arc_spellStrand_76 : pr_Arc_spellStrand[76]? = some (124, 3, .goto (-25), [65]) := rfl
theorem pa_Arc_spellStrand_77 : pr_Arc_spellStrand[77]? = some (127, 1, .aload_n 0, []) := rfl
theorem pa_Arc_spellStrand_78 : pr_Arc_spellStrand[78]? = some (128, 3, .getfield 53, [6, 8, 2, 0, 230]) := rfl
theorem pa_Arc_spellStrand_79 : pr_Arc_spellStrand[79]? = some (131, 3, .invokevirtual 172, [9, 0, 2, 0, 370, 371, 372, 44]) := rfl
theorem pa_Arc_spellStrand_80 : pr_Arc_spellStrand[80]? = some (134, 2, .istore 5, []) := rfl
theorem pa_Arc_spellStrand_81 : pr_Arc_spellStrand[81]? = some (136, 2, .aload 4, []) := rfl
theorem pa_Arc_spellStrand_82 : pr_Arc_spellStrand[82]? = some (138, 1, .aload_n 0, []) := rfl
theorem pa_Arc_spellStrand_83 : pr_Arc_spellStrand[83]? = some (139, 3, .getfield 53, [6, 8, 2, 0, 230]) := rfl
theorem pa_Arc_spellStrand_84 : pr_Arc_spellStrand[84]? = some (142, 3, .invokevirtual 176, [10, 0, 2, 0, 374, 375, 376, 44]) := rfl
theorem pa_Arc_spellStrand_85 : pr_Arc_spellStrand[85]? = some (145, 3, .invokestatic 179, [57, 2, 0, 378, 379, 40]) := rfl
theorem pa_Arc_spellStrand_86 : pr_Arc_spellStrand[86]? = some (148, 2, .aload 4, []) := rfl
theorem pa_Arc_spellStrand_87 : pr_Arc_spellStrand[87]? = some (150, 2, .iload 5, []) := rfl
theorem pa_Arc_spellStrand_88 : pr_Arc_spellStrand[88]? = some (152, 2, .bipush 16, [16, 0]) := rfl
theorem pa_Arc_spellStrand_89 : pr_Arc_spellStrand[89]? = some (154, 1, .idiv, []) := rfl
theorem pa_Arc_spellStrand_90 : pr_Arc_spellStrand[90]? = some (155, 3, .invokestatic 179, [57, 2, 0, 378, 379, 40]) := rfl
theorem pa_Arc_spellStrand_91 : pr_Arc_spellStrand[91]? = some (158, 2, .aload 4, []) := rfl
theorem pa_Arc_spellStrand_92 : pr_Arc_spellStrand[92]? = some (160, 2, .iload 5, []) := rfl
theorem pa_Arc_spellStrand_93 : pr_Arc_spellStrand[93]? = some (162, 1, .iconst 4, [4, 0]) := rfl
theorem pa_Arc_spellStrand_94 : pr_Arc_spellStrand[94]? = some (163, 1, .idiv, []) := rfl
theorem pa_Arc_spellStrand_95 : pr_Arc_spellStrand[95]? = some (164, 1, .iconst 4, [4, 0]) := rfl
theorem pa_Arc_spellStrand_96 : pr_Arc_spellStrand[96]? = some (165, 1, .irem, []) := rfl
theorem pa_Arc_spellStrand_97 : pr_Arc_spellStrand[97]? = some (166, 3, .invokestatic 179, [57, 2, 0, 378, 379, 40]) := rfl
theorem pa_Arc_spellStrand_98 : pr_Arc_spellStrand[98]? = some (169, 2, .aload 4, []) := rfl
theorem pa_Arc_spellStrand_99 : pr_Arc_spellStrand[99]? = some (171, 2, .iload 5, []) := rfl
theorem pa_Arc_spellStrand_100 : pr_Arc_spellStrand[100]? = some (173, 1, .iconst 4, [4, 0]) := rfl
theorem pa_Arc_spellStrand_101 : pr_Arc_spellStrand[101]? = some (174, 1, .irem, []) := rfl
theorem pa_Arc_spellStrand_102 : pr_Arc_spellStrand[102]? = some (175, 3, .invokestatic 179, [57, 2, 0, 378, 379, 40]) := rfl
theorem pa_Arc_spellStrand_103 : pr_Arc_spellStrand[103]? = some (178, 1, .return_, []) := rfl
def pa_Arc_spellStrand := And.intro pa_Arc_spellStrand_0 (And.intro pa_Arc_spellStrand_1 (And.intro pa_Arc_spellStrand_2 (And.intro pa_Arc_spellStrand_3 (And.intro pa_Arc_spellStrand_4 (And.intro pa_Arc_spellStrand_5 (And.intro pa_Arc_spellStrand_6 (And.intro pa_Arc_spellStrand_7 (And.intro pa_Arc_spellStrand_8 (And.intro pa_Arc_spellStrand_9 (And.intro pa_Arc_spellStrand_10 (And.intro pa_Arc_spellStrand_11 (And.intro pa_Arc_spellStrand_12 (And.intro pa_Arc_spellStrand_13 (And.intro pa_Arc_spellStrand_14 (And.intro pa_Arc_spellStrand_15 (And.intro pa_Arc_spellStrand_16 (And.intro pa_Arc_spellStrand_17 (And.intro pa_Arc_spellStrand_18 (And.intro pa_Arc_spellStrand_19 (And.intro pa_Arc_spellStrand_20 (And.intro pa_Arc_spellStrand_21 (And.intro pa_Arc_spellStrand_22 (And.intro pa_Arc_spellStrand_23 (And.intro pa_Arc_spellStrand_24 (And.intro pa_Arc_spellStrand_25 (And.intro pa_Arc_spellStrand_26 (And.intro pa_Arc_spellStrand_27 (And.intro pa_Arc_spellStrand_28 (And.intro pa_Arc_spellStrand_29 (And.intro pa_Arc_spellStrand_30 (And.intro pa_Arc_spellStrand_31 (And.intro pa_Arc_spellStrand_32 (And.intro pa_Arc_spellStrand_33 (And.intro pa_Arc_spellStrand_34 (And.intro pa_Arc_spellStrand_35 (And.intro pa_Arc_spellStrand_36 (And.intro pa_Arc_spellStrand_37 (And.intro pa_Arc_spellStrand_38 (And.intro pa_Arc_spellStrand_39 (And.intro pa_Arc_spellStrand_40 (And.intro pa_Arc_spellStrand_41 (And.intro pa_Arc_spellStrand_42 (And.intro pa_Arc_spellStrand_43 (And.intro pa_Arc_spellStrand_44 (And.intro pa_Arc_spellStrand_45 (And.intro pa_Arc_spellStrand_46 (And.intro pa_Arc_spellStrand_47 (And.intro pa_Arc_spellStrand_48 (And.intro pa_Arc_spellStrand_49 (And.intro pa_Arc_spellStrand_50 (And.intro pa_Arc_spellStrand_51 (And.intro pa_Arc_spellStrand_52 (And.intro pa_Arc_spellStrand_53 (And.intro pa_Arc_spellStrand_54 (And.intro pa_Arc_spellStrand_55 (And.intro pa_Arc_spellStrand_56 (And.intro pa_Arc_spellStrand_57 (And.intro pa_Arc_spellStrand_58 (And.intro pa_Arc_spellStrand_59 (And.intro pa_Arc_spellStrand_60 (And.intro pa_Arc_spellStrand_61 (And.intro pa_Arc_spellStrand_62 (And.intro pa_Arc_spellStrand_63 (And.intro pa_Arc_spellStrand_64 (And.intro pa_Arc_spellStrand_65 (And.intro pa_Arc_spellStrand_66 (And.intro pa_Arc_spellStrand_67 (And.intro pa_Arc_spellStrand_68 (And.intro pa_Arc_spellStrand_69 (And.intro pa_Arc_spellStrand_70 (And.intro pa_Arc_spellStrand_71 (And.intro pa_Arc_spellStrand_72 (And.intro pa_Arc_spellStrand_73 (And.intro pa_Arc_spellStrand_74 (And.intro pa_Arc_spellStrand_75 (And.intro pa_Arc_spellStrand_76 (And.intro pa_Arc_spellStrand_77 (And.intro pa_Arc_spellStrand_78 (And.intro pa_Arc_spellStrand_79 (And.intro pa_Arc_spellStrand_80 (And.intro pa_Arc_spellStrand_81 (And.intro pa_Arc_spellStrand_82 (And.intro pa_Arc_spellStrand_83 (And.intro pa_Arc_spellStrand_84 (And.intro pa_Arc_spellStrand_85 (And.intro pa_Arc_spellStrand_86 (And.intro pa_Arc_spellStrand_87 (And.intro pa_Arc_spellStrand_88 (And.intro pa_Arc_spellStrand_89 (And.intro pa_Arc_spellStrand_90 (And.intro pa_Arc_spellStrand_91 (And.intro pa_Arc_spellStrand_92 (And.intro pa_Arc_spellStrand_93 (And.intro pa_Arc_spellStrand_94 (And.intro pa_Arc_spellStrand_95 (And.intro pa_Arc_spellStrand_96 (And.intro pa_Arc_spellStrand_97 (And.intro pa_Arc_spellStrand_98 (And.intro pa_Arc_spellStrand_99 (And.intro pa_Arc_spellStrand_100 (And.intro pa_Arc_spellStrand_101 (And.intro pa_Arc_spellStrand_102 (pa_Arc_spellStrand_103)))))))))))))))))))))))))))))))))))))))))))))))))))))))))))))))))))))))))))))))))))))))))))))))))))))))
def pr_Mod_isMended : List ma_E := [(0, 1, .iconst 0, [0, 0]),
  (1, 1, .istore_n 2, []),
  (2, 1, .iconst 0, [0, 0]),
  (3, 1, .istore_n 3, []),
  (4, 1, .iload_n 3, []),
  (5, 2, .bipush 16, [16, 0]),
  (7, 3, .if_icmp .ge (32), [25]),
  (10, 1, .iload_n 2, []),
  (11, 1, .aload_n 0, []),
  (12, 3, .getfield 38, [7, 15, 2, 0, 635]),
  (15, 2, .bipush 16, [16, 0]),
  (17, 1, .iload_n 1, []),
  (18, 1, .imul, []),
  (19, 1, .iload_n 3, []),
  (20, 1, .iadd, []),
  (21, 1, .iaload, []),
  (22, 1, .iconst 1, [1, 0]),
  (23, 3, .if_icmp .ne (7), [20]),
  (26, 1, .iconst 0, [0, 0]),
  (27, 3, .goto (4), [21]),
  (30, 1, .iconst 1, [1, 0]),
  (31, 1, .iadd, []),
  (32, 1, .istore_n 2, []),
  (33, 3, .iinc 3 (1), [1, 0]),
  (36, 3, .goto (-32), [4]),
  (39, 1, .aload_n 0, []),
  (40, 3, .getfield 26, [7, 11, 2, 0, 631]),
  (43, 1, .iload_n 1, []),
  (44, 1, .iload_n 2, []),
  (45, 1, .iastore, []),
  (46, 1, .iconst 0, [0, 0]),
  (47, 1, .istore_n 3, []),
  (48, 1, .iconst 1, [1, 0]),
  (49, 2, .istore 4, []),
  (51, 1, .iconst 0, [0, 0]),
  (52, 2, .istore 5, []),
  (54, 2, .iload 5, []),
  (56, 1, .iconst 4, [4, 0]),
  (57, 3, .if_icmp .ge (197), [150]),
  (60, 2, .iload 4, []),
  (62, 3, .ifCond .eq (192), [150]),
  (65, 1, .iconst 0, [0, 0]),
  (66, 2, .istore 6, []),
  (68, 2, .iload 6, []),
  (70, 2, .bipush 16, [16, 0]),
  (72, 3, .if_icmp .ge (53), [76]),
  (75, 1, .aload_n 0, []),
  (76, 3, .getfield 44, [7, 17, 2, 0, 637]),
  (79, 2, .iload 6, []),
  (81, 1, .aload_n 0, []),
  (82, 3, .getfield 38, [7, 15, 2, 0, 635]),
  (85, 2, .bipush 16, [16, 0]),
  (87, 1, .iload_n 1, []),
  (88, 1, .imul, []),
  (89, 2, .iload 6, []),
  (91, 1, .iadd, []),
  (92, 1, .iaload, []),
  (93, 1, .iconst 1, [1, 0]),
  (94, 3, .if_icmp .ne (23), [72]),
  (97, 1, .aload_n 0, []),
  (98, 3, .getfield 41, [7, 16, 2, 0, 636]),
  (101, 2, .bipush 64, [64, 0]),
  (103, 1, .iload_n 1, []),
  (104, 1, .imul, []),
  (105, 1, .iconst 4, [4, 0]),
  (106, 2, .iload 6, []),
  (108, 1, .imul, []),
  (109, 1, .iadd, []),
  (110, 2, .iload 5, []),
  (112, 1, .iadd, []),
  (113, 1, .iaload, []),
  (114, 3, .goto (4), [73]),
  (117, 1, .iconst 0, [0, 0]),
  (118, 1, .iastore, []),
  (119, 3, .iinc 6 (1), [1, 0]),
  (122, 3, .goto (-54), [43]),
  (125, 1, .aload_n 0, []),
  (126, 1, .iload_n 1, []),
  (127, 1, .iload_n 2, []),
  (128, 3, .invokevirtual 139, [89, 2, 7, 0, 790, 792, 38, 47]),
  (131, 2, .istore 4, []),
  (133, 1, .iconst 0, [0, 0]),
  (134, 2, .istore 6, []),
  (136, 2, .iload 6, []),
  (138, 2, .bipush 16, [16, 0]),
  (140, 3, .if_icmp .ge (108), [148]),
  (143, 2, .iload 4, []),
  (145, 3, .ifCond .eq (103), [148]),
  (148, 1, .aload_n 0, []),
  (149, 3, .getfield 38, [7, 15, 2, 0, 635]),
  (152, 2, .bipush 16, [16, 0]),
  (154, 1, .iload_n 1, []),
  (155, 1, .imul, []),
  (156, 2, .iload 6, []),
  (158, 1, .iadd, []),
  (159, 1, .iaload, []),
  (160, 1, .iconst 1, [1, 0]),
  (161, 3, .if_icmp .ne (37), [121]),
  (164, 1, .aload_n 0, []),
  (165, 3, .getfield 44, [7, 17, 2, 0, 637]),
  (168, 2, .iload 6, []),
  (170, 1, .iaload, []),
  (171, 1, .aload_n 0, []),
  (172, 3, .getfield 41, [7, 16, 2, 0, 636]),
  (175, 2, .bipush 64, [64, 0]),
  (177, 1, .iload_n 1, []),
  (178, 1, .imul, []),
  (179, 1, .iconst 4, [4, 0]),
  (180, 2, .iload 6, []),
  (182, 1, .imul, []),
  (183, 1, .iadd, []),
  (184, 2, .iload 5, []),
  (186, 1, .iadd, []),
  (187, 1, .iaload, []),
  (188, 3, .if_icmp .eq (10), [121]),
  (191, 1, .iload_n 3, []),
  (192, 1, .iconst 1, [1, 0]),
  (193, 2, .iload 6, []),
  (195, 1, .ishl, []),
  (196, 1, .ior, []),
  (197, 1, .istore_n 3, []),
  (198, 2, .bipush 40, [40, 0]),
  (200, 1, .iload_n 1, []),
  (201, 1, .imul, []),
  (202, 1, .iconst 4, [4, 0]),
  (203, 2, .iload 6, []),
  (205, 1, .imul, []),
  (206, 1, .iadd, []),
  (207, 2, .iload 5, []),
  (209, 1, .iadd, []),
  (210, 2, .istore 7, []),
  (212, 2, .iload 6, []),
  (214, 2, .bipush 10, [10, 0]),
  (216, 3, .if_icmp .ge (26), [146]),
  (219, 2, .iload 7, []),
  (221, 1, .aload_n 0, []),
  (222, 3, .getfield 121, [7, 7, 0, 0, 627]),
  (225, 3, .if_icmp .ge (17), [146]),
  (228, 1, .aload_n 0, []),
  (229, 3, .getfield 23, [7, 10, 2, 0, 630]),
  (232, 2, .iload 7, []),
  (234, 1, .aload_n 0, []),
  (235, 3, .getfield 44, [7, 17, 2, 0, 637]),
  (238, 2, .iload 6, []),
  (240, 1, .iaload, []),
  (241, 1, .iastore, []),
  (242, 3, .iinc 6 (1), [1, 0]),
  (245, 3, .goto (-109), [83]),
  (248, 3, .iinc 5 (1), [1, 0]),
  (251, 3, .goto (-197), [36]),
  (254, 1, .aload_n 0, []),
  (255, 3, .getfield 29, [7, 12, 2, 0, 632]),
  (258, 1, .iload_n 1, []),
  (259, 1, .iconst 0, [0, 0]),
  (260, 1, .iastore, []),
  (261, 1, .iconst 0, [0, 0]),
  (262, 2, .istore 5, []),
  (264, 2, .iload 5, []),
  (266, 2, .bipush 16, [16, 0]),
  (268, 3, .if_icmp .ge (24), [174]),
  (271, 1, .aload_n 0, []),
  (272, 3, .getfield 29, [7, 12, 2, 0, 632]),
  (275, 1, .iload_n 1, []),
  (276, 1, .dup2, []),
  (277, 1, .iaload, []),
  (278, 1, .iload_n 3, []),
  (279, 2, .iload 5, []),
  (281, 1, .ishr, []),
  (282, 1, .iconst 1, [1, 0]),
  (283, 1, .iand, []),
  (284, 1, .iadd, []),
  (285, 1, .iastore, []),
  (286, 3, .iinc 5 (1), [1, 0]),
  (289, 3, .goto (-25), [157]),
  (292, 2, .bipush 40, [40, 0]),
  (294, 1, .iload_n 1, []),
  (295, 1, .imul, []),
  (296, 2, .istore 5, []),
  (298, 2, .iload 5, []),
  (300, 2, .bipush 40, [40, 0]),
  (302, 1, .iload_n 1, []),
  (303, 1, .imul, []),
  (304, 2, .bipush 40, [40, 0]),
  (306, 1, .iadd, []),
  (307, 3, .if_icmp .ge (31), [198]),
  (310, 2, .iload 5, []),
  (312, 1, .aload_n 0, []),
  (313, 3, .getfield 121, [7, 7, 0, 0, 627]),
  (316, 3, .if_icmp .ge (22), [198]),
  (319, 2, .iload 4, []),
  (321, 3, .ifCond .ne (17), [198]),
  (324, 1, .aload_n 0, []),
  (325, 3, .getfield 23, [7, 10, 2, 0, 630]),
  (328, 2, .iload 5, []),
  (330, 1, .iconst 0, [0, 0]),
  (331, 1, .iastore, []),
  (332, 3, .iinc 5 (1), [1, 0]),
  (335, 3, .goto (-37), [178]),
  (338, 2, .iload 4, []),
  (340, 3, .ifCond .ne (10), [205]),
  (343, 1, .aload_n 0, []),
  (344, 3, .getfield 29, [7, 12, 2, 0, 632]),
  (347, 1, .iload_n 1, []),
  (348, 1, .iconst (-1), [1, 1]),
  (349, 1, .iastore, []),
  (350, 2, .iload 4, []),
  (352, 1, .ireturn, [1])]
theorem po_Mod_isMended : ma_ok me_Mod_isMended pr_Mod_isMended := ma_ok_of (by decide +kernel)
theorem pa_Mod_isMended_0 : pr_Mod_isMended[0]? = some (0, 1, .iconst 0, [0, 0]) := rfl
theorem pa_Mod_isMended_1 : pr_Mod_isMended[1]? = some (1, 1, .istore_n 2, []) := rfl
theorem pa_Mod_isMended_2 : pr_Mod_isMended[2]? = some (2, 1, .iconst 0, [0, 0]) := rfl
theorem pa_Mod_isMended_3 : pr_Mod_isMended[3]? = some (3, 1, .istore_n 3, []) := rfl
theorem pa_Mod_isMended_4 : pr_Mod_isMended[4]? = some (4, 1, .iload_n 3, []) := rfl
theorem pa_Mod_isMended_5 : pr_Mod_isMended[5]? = some (5, 2, .bipush 16, [16, 0]) := rfl
theorem pa_Mod_isMended_6 : pr_Mod_isMended[6]? = some (7, 3, .if_icmp .ge (32), [25]) := rfl
theorem pa_Mod_isMended_7 : pr_Mod_isMended[7]? = some (10, 1, .iload_n 2, []) := rfl
theorem pa_Mod_isMended_8 : pr_Mod_isMended[8]? = some (11, 1, .aload_n 0, []) := rfl
theorem pa_Mod_isMended_9 : pr_Mod_isMended[9]? = some (12, 3, .getfield 38, [7, 15, 2, 0, 635]) := rfl
theorem pa_Mod_isMended_10 : pr_Mod_isMended[10]? = some (15, 2, .bipush 16, [16, 0]) := rfl
theorem pa_Mod_isMended_11 : pr_Mod_isMended[11]? = some (17, 1, .iload_n 1, []) := rfl
theorem pa_Mod_isMended_12 : pr_Mod_isMended[12]? = some (18, 1, .imul, []) := rfl
theorem pa_Mod_isMended_13 : pr_Mod_isMended[13]? = some (19, 1, .iload_n 3, []) := rfl
theorem pa_Mod_isMended_14 : pr_Mod_isMended[14]? = some (20, 1, .iadd, []) := rfl
theorem pa_Mod_isMended_15 : pr_Mod_isMended[15]? = some (21, 1, .iaload, []) := rfl
theorem pa_Mod_isMended_16 : pr_Mod_isMended[16]? = some (22, 1, .iconst 1, [1, 0]) := rfl
theorem pa_Mod_isMended_17 : pr_Mod_isMended[17]? = some (23, 3, .if_icmp .ne (7), [20]) := rfl
theorem pa_Mod_isMended_18 : pr_Mod_isMended[18]? = some (26, 1, .iconst 0, [0, 0]) := rfl
theorem pa_Mod_isMended_19 : pr_Mod_isMended[19]? = some (27, 3, .goto (4), [21]) := rfl
theorem pa_Mod_isMended_20 : pr_Mod_isMended[20]? = some (30, 1, .iconst 1, [1, 0]) := rfl
theorem pa_Mod_isMended_21 : pr_Mod_isMended[21]? = some (31, 1, .iadd, []) := rfl
theorem pa_Mod_isMended_22 : pr_Mod_isMended[22]? = some (32, 1, .istore_n 2, []) := rfl
theorem pa_Mod_isMended_23 : pr_Mod_isMended[23]? = some (33, 3, .iinc 3 (1), [1, 0]) := rfl
theorem pa_Mod_isMended_24 : pr_Mod_isMended[24]? = some (36, 3, .goto (-32), [4]) := rfl
theorem pa_Mod_isMended_25 : pr_Mod_isMended[25]? = some (39, 1, .aload_n 0, []) := rfl
theorem pa_Mod_isMended_26 : pr_Mod_isMended[26]? = some (40, 3, .getfield 26, [7, 11, 2, 0, 631]) := rfl
theorem pa_Mod_isMended_27 : pr_Mod_isMended[27]? = some (43, 1, .iload_n 1, []) := rfl
theorem pa_Mod_isMended_28 : pr_Mod_isMended[28]? = some (44, 1, .iload_n 2, []) := rfl
theorem pa_Mod_isMended_29 : pr_Mod_isMended[29]? = some (45, 1, .iastore, []) := rfl
theorem pa_Mod_isMended_30 : pr_Mod_isMended[30]? = some (46, 1, .iconst 0, [0, 0]) := rfl
theorem pa_Mod_isMended_31 : pr_Mod_isMended[31]? = some (47, 1, .istore_n 3, []) := rfl
theorem pa_Mod_isMended_32 : pr_Mod_isMended[32]? = some (48, 1, .iconst 1, [1, 0]) := rfl
theorem pa_Mod_isMended_33 : pr_Mod_isMended[33]? = some (49, 2, .istore 4, []) := rfl
theorem pa_Mod_isMended_34 : pr_Mod_isMended[34]? = some (51, 1, .iconst 0, [0, 0]) := rfl
theorem pa_Mod_isMended_35 : pr_Mod_isMended[35]? = some (52, 2, .istore 5, []) := rfl
theorem pa_Mod_isMended_36 : pr_Mod_isMended[36]? = some (54, 2, .iload 5, []) := rfl
theorem pa_Mod_isMended_37 : pr_Mod_isMended[37]? = some (56, 1, .iconst 4, [4, 0]) := rfl
theorem pa_Mod_isMended_38 : pr_Mod_isMended[38]? = some (57, 3, .if_icmp .ge (197), [150]) := rfl
theorem pa_Mod_isMended_39 : pr_Mod_isMended[39]? = some (60, 2, .iload 4, []) := rfl
theorem pa_Mod_isMended_40 : pr_Mod_isMended[40]? = some (62, 3, .ifCond .eq (192), [150]) := rfl
theorem pa_Mod_isMended_41 : pr_Mod_isMended[41]? = some (65, 1, .iconst 0, [0, 0]) := rfl
theorem pa_Mod_isMended_42 : pr_Mod_isMended[42]? = some (66, 2, .istore 6, []) := rfl
theorem pa_Mod_isMended_43 : pr_Mod_isMended[43]? = some (68, 2, .iload 6, []) := rfl
theorem pa_Mod_isMended_44 : pr_Mod_isMended[44]? = some (70, 2, .bipush 16, [16, 0]) := rfl
theorem pa_Mod_isMended_45 : pr_Mod_isMended[45]? = some (72, 3, .if_icmp .ge (53), [76]) := rfl
theorem pa_Mod_isMended_46 : pr_Mod_isMended[46]? = some (75, 1, .aload_n 0, []) := rfl
theorem pa_Mod_isMended_47 : pr_Mod_isMended[47]? = some (76, 3, .getfield 44, [7, 17, 2, 0, 637]) := rfl
theorem pa_Mod_isMended_48 : pr_Mod_isMended[48]? = some (79, 2, .iload 6, []) := rfl
theorem pa_Mod_isMended_49 : pr_Mod_isMended[49]? = some (81, 1, .aload_n 0, []) := rfl
theorem pa_Mod_isMended_50 : pr_Mod_isMended[50]? = some (82, 3, .getfield 38, [7, 15, 2, 0, 635]) := rfl
theorem pa_Mod_isMended_51 : pr_Mod_isMended[51]? = some (85, 2, .bipush 16, [16, 0]) := rfl
theorem pa_Mod_isMended_52 : pr_Mod_isMended[52]? = some (87, 1, .iload_n 1, []) := rfl
theorem pa_Mod_isMended_53 : pr_Mod_isMended[53]? = some (88, 1, .imul, []) := rfl
theorem pa_Mod_isMended_54 : pr_Mod_isMended[54]? = some (89, 2, .iload 6, []) := rfl
theorem pa_Mod_isMended_55 : pr_Mod_isMended[55]? = some (91, 1, .iadd, []) := rfl
theorem pa_Mod_isMended_56 : pr_Mod_isMended[56]? = some (92, 1, .iaload, []) := rfl
theorem pa_Mod_isMended_57 : pr_Mod_isMended[57]? = some (93, 1, .iconst 1, [1, 0]) := rfl
theorem pa_Mod_isMended_58 : pr_Mod_isMended[58]? = some (94, 3, .if_icmp .ne (23), [72]) := rfl
theorem pa_Mod_isMended_59 : pr_Mod_isMended[59]? = some (97, 1, .aload_n 0, []) := rfl
theorem pa_Mod_isMended_60 : pr_Mod_isMended[60]? = some (98, 3, .getfield 41, [7, 16, 2, 0, 636]) := rfl
theorem pa_Mod_isMended_61 : pr_Mod_isMended[61]? = some (101, 2, .bipush 64, [64, 0]) := rfl
theorem pa_Mod_isMended_62 : pr_Mod_isMended[62]? = some (103, 1, .iload_n 1, []) := rfl
theorem pa_Mod_isMended_63 : pr_Mod_isMended[63]? = some (104, 1, .imul, []) := rfl
theorem pa_Mod_isMended_64 : pr_Mod_isMended[64]? = some (105, 1, .iconst 4, [4, 0]) := rfl
theorem pa_Mod_isMended_65 : pr_Mod_isMended[65]? = some (106, 2, .iload 6, []) := rfl
theorem pa_Mod_isMended_66 : pr_Mod_isMended[66]? = some (108, 1, .imul, []) := rfl
theorem pa_Mod_isMended_67 : pr_Mod_isMended[67]? = some (109, 1, .iadd, []) := rfl
theorem pa_Mod_isMended_68 : pr_Mod_isMended[68]? = some (110, 2, .iload 5, []) := rfl
theorem pa_Mod_isMended_69 : pr_Mod_isMended[69]? = some (112, 1, .iadd, []) := rfl
theorem pa_Mod_isMended_70 : pr_Mod_isMended[70]? = some (113, 1, .iaload, []) := rfl
theorem pa_Mod_isMended_71 : pr_Mod_isMended[71]? = some (114, 3, .goto (4), [73]) := rfl
theorem pa_Mod_isMended_72 : pr_Mod_isMended[72]? = some (117, 1, .iconst 0, [0, 0]) := rfl
theorem pa_Mod_isMended_73 : pr_Mod_isMended[73]? = some (118, 1, .iastore, []) := rfl
theorem pa_Mod_isMended_74 : pr_Mod_isMended[74]? = some (119, 3, .iinc 6 (1), [1, 0]) := rfl
theorem pa_Mod_isMended_75 : pr_Mod_isMended[75]? = some (122, 3, .goto (-54), [43]) := rfl
theorem pa_Mod_isMended_76 : pr_Mod_isMended[76]? = some (125, 1, .aload_n 0, []) := rfl
theorem pa_Mod_isMended_77 : pr_Mod_isMended[77]? = some (126, 1, .iload_n 1, []) := rfl
theorem pa_Mod_isMended_78 : pr_Mod_isMended[78]? = some (127, 1, .iload_n 2, []) := rfl
theorem pa_Mod_isMended_79 : pr_Mod_isMended[79]? = some (128, 3, .invokevirtual 139, [89, 2, 7, 0, 790, 792, 38, 47]) := rfl
theorem pa_Mod_isMended_80 : pr_Mod_isMended[80]? = some (131, 2, .istore 4, []) := rfl
theorem pa_Mod_isMended_81 : pr_Mod_isMended[81]? = some (133, 1, .iconst 0, [0, 0]) := rfl
theorem pa_Mod_isMended_82 : pr_Mod_isMended[82]? = some (134, 2, .istore 6, []) := rfl
theorem pa_Mod_isMended_83 : pr_Mod_isMended[83]? = some (136, 2, .iload 6, []) := rfl
theorem pa_Mod_isMended_84 : pr_Mod_isMended[84]? = some (138, 2, .bipush 16, [16, 0]) := rfl
theorem pa_Mod_isMended_85 : pr_Mod_isMended[85]? = some (140, 3, .if_icmp .ge (108), [148]) := rfl
theorem pa_Mod_isMended_86 : pr_Mod_isMended[86]? = some (143, 2, .iload 4, []) := rfl
theorem pa_Mod_isMended_87 : pr_Mod_isMended[87]? = some (145, 3, .ifCond .eq (103), [148]) := rfl
theorem pa_Mod_isMended_88 : pr_Mod_isMended[88]? = some (148, 1, .aload_n 0, []) := rfl
theorem pa_Mod_isMended_89 : pr_Mod_isMended[89]? = some (149, 3, .getfield 38, [7, 15, 2, 0, 635]) := rfl
theorem pa_Mod_isMended_90 : pr_Mod_isMended[90]? = some (152, 2, .bipush 16, [16, 0]) := rfl
theorem pa_Mod_isMended_91 : pr_Mod_isMended[91]? = some (154, 1, .iload_n 1, []) := rfl
theorem pa_Mod_isMended_92 : pr_Mod_isMended[92]? = some (155, 1, .imul, []) := rfl
theorem pa_Mod_isMended_93 : pr_Mod_isMended[93]? = some (156, 2, .iload 6, []) := rfl
theorem pa_Mod_isMended_94 : pr_Mod_isMended[94]? = some (158, 1, .iadd, []) := rfl
theorem pa_Mod_isMended_95 : pr_Mod_isMended[95]? = some (159, 1, .iaload, []) := rfl
theorem pa_Mod_isMended_96 : pr_Mod_isMended[96]? = some (160, 1, .iconst 1, [1, 0]) := rfl
theorem pa_Mod_isMended_97 : pr_Mod_isMended[97]? = some (161, 3, .if_icmp .ne (37), [121]) := rfl
theorem pa_Mod_isMended_98 : pr_Mod_isMended[98]? = some (164, 1, .aload_n 0, []) := rfl
theorem pa_Mod_isMended_99 : pr_Mod_isMended[99]? = some (165, 3, .getfield 44, [7, 17, 2, 0, 637]) := rfl
theorem pa_Mod_isMended_100 : pr_Mod_isMended[100]? = some (168, 2, .iload 6, []) := rfl
theorem pa_Mod_isMended_101 : pr_Mod_isMended[101]? = some (170, 1, .iaload, []) := rfl
theorem pa_Mod_isMended_102 : pr_Mod_isMended[102]? = some (171, 1, .aload_n 0, []) := rfl
theorem pa_Mod_isMended_103 : pr_Mod_isMended[103]? = some (172, 3, .getfield 41, [7, 16, 2, 0, 636]) := rfl
theorem pa_Mod_isMended_104 : pr_Mod_isMended[104]? = some (175, 2, .bipush 64, [64, 0]) := rfl
theorem pa_Mod_isMended_105 : pr_Mod_isMended[105]? = some (177, 1, .iload_n 1, []) := rfl
theorem pa_Mod_isMended_106 : pr_Mod_isMended[106]? = some (178, 1, .imul, []) := rfl
theorem pa_Mod_isMended_107 : pr_Mod_isMended[107]? = some (179, 1, .iconst 4, [4, 0]) := rfl
theorem pa_Mod_isMended_108 : pr_Mod_isMended[108]? = some (180, 2, .iload 6, []) := rfl
theorem pa_Mod_isMended_109 : pr_Mod_isMended[109]? = some (182, 1, .imul, []) := rfl
theorem pa_Mod_isMended_110 : pr_Mod_isMended[110]? = some (183, 1, .iadd, []) := rfl
theorem pa_Mod_isMended_111 : pr_Mod_isMended[111]? = some (184, 2, .iload 5, []) := rfl
theorem pa_Mod_isMended_112 : pr_Mod_isMended[112]? = some (186, 1, .iadd, []) := rfl
theorem pa_Mod_isMended_113 : pr_Mod_isMended[113]? = some (187, 1, .iaload, []) := rfl
theorem pa_Mod_isMended_114 : pr_Mod_isMended[114]? = some (188, 3, .if_icmp .eq (10), [121]) := rfl
theorem pa_Mod_isMended_115 : pr_Mod_isMended[115]? = some (191, 1, .iload_n 3, []) := rfl
theorem pa_Mod_isMended_116 : pr_Mod_isMended[116]? = some (192, 1, .iconst 1, [1, 0]) := rfl
theorem pa_Mod_isMended_117 : pr_Mod_isMended[117]? = some (193, 2, .iload 6, []) := rfl
theorem pa_Mod_isMended_118 : pr_Mod_isMended[118]? = some (195, 1, .ishl, []) := rfl
theorem pa_Mod_isMended_119 : pr_Mod_isMended[119]? = some (196, 1, .ior, []) := rfl
theorem pa_Mod_isMended_120 : pr_Mod_isMended[120]? = some (197, 1, .istore_n 3, []) := rfl
theorem pa_Mod_isMended_121 : pr_Mod_isMended[121]? = some (198, 2, .bipush 40, [40, 0]) := rfl
theorem pa_Mod_isMended_122 : pr_Mod_isMended[122]? = some (200, 1, .iload_n 1, []) := rfl
theorem pa_Mod_isMended_123 : pr_Mod_isMended[123]? = some (201, 1, .imul, []) := rfl
theorem pa_Mod_isMended_124 : pr_Mod_isMended[124]? = some (202, 1, .iconst 4, [4, 0]) := rfl
theorem pa_Mod_isMended_125 : pr_Mod_isMended[125]? = some (203, 2, .iload 6, []) := rfl
theorem pa_Mod_isMended_126 : pr_Mod_isMended[126]? = some (205, 1, .imul, []) := rfl
theorem pa_Mod_isMended_127 : pr_Mod_isMended[127]? = some (206, 1, .iadd, []) := rfl
theorem pa_Mod_isMended_128 : pr_Mod_isMended[128]? = some (207, 2, .iload 5, []) := rfl
theorem pa_Mod_isMended_129 : pr_Mod_isMended[129]? = some (209, 1, .iadd, []) := rfl
theorem pa_Mod_isMended_130 : pr_Mod_isMended[130]? = some (210, 2, .istore 7, []) := rfl
theorem pa_Mod_isMended_131 : pr_Mod_isMended[131]? = some (212, 2, .iload 6, []) := rfl
theorem pa_Mod_isMended_132 : pr_Mod_isMended[132]? = some (214, 2, .bipush 10, [10, 0]) := rfl
theorem pa_Mod_isMended_133 : pr_Mod_isMended[133]? = some (216, 3, .if_icmp .ge (26), [146]) := rfl
theorem pa_Mod_isMended_134 : pr_Mod_isMended[134]? = some (219, 2, .iload 7, []) := rfl
theorem pa_Mod_isMended_135 : pr_Mod_isMended[135]? = some (221, 1, .aload_n 0, []) := rfl
theorem pa_Mod_isMended_136 : pr_Mod_isMended[136]? = some (222, 3, .getfield 121, [7, 7, 0, 0, 627]) := rfl
theorem pa_Mod_isMended_137 : pr_Mod_isMended[137]? = some (225, 3, .if_icmp .ge (17), [146]) := rfl
theorem pa_Mod_isMended_138 : pr_Mod_isMended[138]? = some (228, 1, .aload_n 0, []) := rfl
theorem pa_Mod_isMended_139 : pr_Mod_isMended[139]? = some (229, 3, .getfield 23, [7, 10, 2, 0, 630]) := rfl
theorem pa_Mod_isMended_140 : pr_Mod_isMended[140]? = some (232, 2, .iload 7, []) := rfl
theorem pa_Mod_isMended_141 : pr_Mod_isMended[141]? = some (234, 1, .aload_n 0, []) := rfl
theorem pa_Mod_isMended_142 : pr_Mod_isMended[142]? = some (235, 3, .getfield 44, [7, 17, 2, 0, 637]) := rfl
theorem pa_Mod_isMended_143 : pr_Mod_isMended[143]? = some (238, 2, .iload 6, []) := rfl
theorem pa_Mod_isMended_144 : pr_Mod_isMended[144]? = some (240, 1, .iaload, []) := rfl
theorem pa_Mod_isMended_145 : pr_Mod_isMended[145]? = some (241, 1, .iastore, []) := rfl
theorem pa_Mod_isMended_146 : pr_Mod_isMended[146]? = some (242, 3, .iinc 6 (1), [1, 0]) := rfl
theorem pa_Mod_isMended_147 : pr_Mod_isMended[147]? = some (245, 3, .goto (-109), [83]) := rfl
theorem pa_Mod_isMended_148 : pr_Mod_isMended[148]? = some (248, 3, .iinc 5 (1), [1, 0]) := rfl
theorem pa_Mod_isMended_149 : pr_Mod_isMended[149]? = some (251, 3, .goto (-197), [36]) := rfl
theorem pa_Mod_isMended_150 : pr_Mod_isMended[150]? = some (254, 1, .aload_n 0, []) := rfl
theorem pa_Mod_isMended_151 : pr_Mod_isMended[151]? = some (255, 3, .getfield 29, [7, 12, 2, 0, 632]) := rfl
theorem pa_Mod_isMended_152 : pr_Mod_isMended[152]? = some (258, 1, .iload_n 1, []) := rfl
theorem pa_Mod_isMended_153 : pr_Mod_isMended[153]? = some (259, 1, .iconst 0, [0, 0]) := rfl
theorem pa_Mod_isMended_154 : pr_Mod_isMended[154]? = some (260, 1, .iastore, []) := rfl
theorem pa_Mod_isMended_155 : pr_Mod_isMended[155]? = some (261, 1, .iconst 0, [0, 0]) := rfl
theorem pa_Mod_isMended_156 : pr_Mod_isMended[156]? = some (262, 2, .istore 5, []) := rfl
theorem pa_Mod_isMended_157 : pr_Mod_isMended[157]? = some (264, 2, .iload 5, []) := rfl
theorem pa_Mod_isMended_158 : pr_Mod_isMended[158]? = some (266, 2, .bipush 16, [16, 0]) := rfl
theorem pa_Mod_isMended_159 : pr_Mod_isMended[159]? = some (268, 3, .if_icmp .ge (24), [174]) := rfl
theorem pa_Mod_isMended_160 : pr_Mod_isMended[160]? = some (271, 1, .aload_n 0, []) := rfl
theorem pa_Mod_isMended_161 : pr_Mod_isMended[161]? = some (272, 3, .getfield 29, [7, 12, 2, 0, 632]) := rfl
theorem pa_Mod_isMended_162 : pr_Mod_isMended[162]? = some (275, 1, .iload_n 1, []) := rfl
theorem pa_Mod_isMended_163 : pr_Mod_isMended[163]? = some (276, 1, .dup2, []) := rfl
theorem pa_Mod_isMended_164 : pr_Mod_isMended[164]? = some (277, 1, .iaload, []) := rfl
theorem pa_Mod_isMended_165 : pr_Mod_isMended[165]? = some (278, 1, .iload_n 3, []) := rfl
theorem pa_Mod_isMended_166 : pr_Mod_isMended[166]? = some (279, 2, .iload 5, []) := rfl
theorem pa_Mod_isMended_167 : pr_Mod_isMended[167]? = some (281, 1, .ishr, []) := rfl
theorem pa_Mod_isMended_168 : pr_Mod_isMended[168]? = some (282, 1, .iconst 1, [1, 0]) := rfl
theorem pa_Mod_isMended_169 : pr_Mod_isMended[169]? = some (283, 1, .iand, []) := rfl
theorem pa_Mod_isMended_170 : pr_Mod_isMended[170]? = some (284, 1, .iadd, []) := rfl
theorem pa_Mod_isMended_171 : pr_Mod_isMended[171]? = some (285, 1, .iastore, []) := rfl
theorem pa_Mod_isMended_172 : pr_Mod_isMended[172]? = some (286, 3, .iinc 5 (1), [1, 0]) := rfl
theorem pa_Mod_isMended_173 : pr_Mod_isMended[173]? = some (289, 3, .goto (-25), [157]) := rfl
theorem pa_Mod_isMended_174 : pr_Mod_isMended[174]? = some (292, 2, .bipush 40, [40, 0]) := rfl
theorem pa_Mod_isMended_175 : pr_Mod_isMended[175]? = some (294, 1, .iload_n 1, []) := rfl
theorem pa_Mod_isMended_176 : pr_Mod_isMended[176]? = some (295, 1, .imul, []) := rfl
theorem pa_Mod_isMended_177 : pr_Mod_isMended[177]? = some (296, 2, .istore 5, []) := rfl
theorem pa_Mod_isMended_178 : pr_Mod_isMended[178]? = some (298, 2, .iload 5, []) := rfl
theorem pa_Mod_isMended_179 : pr_Mod_isMended[179]? = some (300, 2, .bipush 40, [40, 0]) := rfl
theorem pa_Mod_isMended_180 : pr_Mod_isMended[180]? = some (302, 1, .iload_n 1, []) := rfl
theorem pa_Mod_isMended_181 : pr_Mod_isMended[181]? = some (303, 1, .imul, []) := rfl
theorem pa_Mod_isMended_182 : pr_Mod_isMended[182]? = some (304, 2, .bipush 40, [40, 0]) := rfl
theorem pa_Mod_isMended_183 : pr_Mod_isMended[183]? = some (306, 1, .iadd, []) := rfl
theorem pa_Mod_isMended_184 : pr_Mod_isMended[184]? = some (307, 3, .if_icmp .ge (31), [198]) := rfl
theorem pa_Mod_isMended_185 : pr_Mod_isMended[185]? = some (310, 2, .iload 5, []) := rfl
theorem pa_Mod_isMended_186 : pr_Mod_isMended[186]? = some (312, 1, .aload_n 0, []) := rfl
theorem pa_Mod_isMended_187 : pr_Mod_isMended[187]? = some (313, 3, .getfield 121, [7, 7, 0, 0, 627]) := rfl
theorem pa_Mod_isMended_188 : pr_Mod_isMended[188]? = some (316, 3, .if_icmp .ge (22), [198]) := rfl
theorem pa_Mod_isMended_189 : pr_Mod_isMended[189]? = some (319, 2, .iload 4, []) := rfl
theorem pa_Mod_isMended_190 : pr_Mod_isMended[190]? = some (321, 3, .ifCond .ne (17), [198]) := rfl
theorem pa_Mod_isMended_191 : pr_Mod_isMended[191]? = some (324, 1, .aload_n 0, []) := rfl
theorem pa_Mod_isMended_192 : pr_Mod_isMended[192]? = some (325, 3, .getfield 23, [7, 10, 2, 0, 630]) := rfl
theorem pa_Mod_isMended_193 : pr_Mod_isMended[193]? = some (328, 2, .iload 5, []) := rfl
theorem pa_Mod_isMended_194 : pr_Mod_isMended[194]? = some (330, 1, .iconst 0, [0, 0]) := rfl
theorem pa_Mod_isMended_195 : pr_Mod_isMended[195]? = some (331, 1, .iastore, []) := rfl
theorem pa_Mod_isMended_196 : pr_Mod_isMended[196]? = some (332, 3, .iinc 5 (1), [1, 0]) := rfl
theorem pa_Mod_isMended_197 : pr_Mod_isMended[197]? = some (335, 3, .goto (-37), [178]) := rfl
theorem pa_Mod_isMended_198 : pr_Mod_isMended[198]? = some (338, 2, .iload 4, []) := rfl
theorem pa_Mod_isMended_199 : pr_Mod_isMended[199]? = some (340, 3, .ifCond .ne (10), [205]) := rfl
theorem pa_Mod_isMended_200 : pr_Mod_isMended[200]? = some (343, 1, .aload_n 0, []) := rfl
set_option maxRecDepth 5000 in
theorem pa_Mod_isMended_201 : pr_Mod_isMended[201]? = some (344, 3, .getfield 29, [7, 12, 2, 0, 632]) := rfl
set_option maxRecDepth 5000 in
theorem pa_Mod_isMended_202 : pr_Mod_isMended[202]? = some (347, 1, .iload_n 1, []) := rfl
set_option maxRecDepth 5000 in
theorem pa_Mod_isMended_203 : pr_Mod_isMended[203]? = some (348, 1, .iconst (-1), [1, 1]) := rfl
set_option maxRecDepth 5000 in
theorem pa_Mod_isMended_204 : pr_Mod_isMended[204]? = some (349, 1, .iastore, []) := rfl
set_option maxRecDepth 5000 in
theorem pa_Mod_isMended_205 : pr_Mod_isMended[205]? = some (350, 2, .iload 4, []) := rfl
set_option maxRecDepth 5000 in
theorem pa_Mod_isMended_206 : pr_Mod_isMended[206]? = some (352, 1, .ireturn, [1]) := rfl
set_option maxRecDepth 30000 in
def pa_Mod_isMended := And.intro pa_Mod_isMended_0 (And.intro pa_Mod_isMended_1 (And.intro pa_Mod_isMended_2 (And.intro pa_Mod_isMended_3 (And.intro pa_Mod_isMended_4 (And.intro pa_Mod_isMended_5 (And.intro pa_Mod_isMended_6 (And.intro pa_Mod_isMended_7 (And.intro pa_Mod_isMended_8 (And.intro pa_Mod_isMended_9 (And.intro pa_Mod_isMended_10 (And.intro pa_Mod_isMended_11 (And.intro pa_Mod_isMended_12 (And.intro pa_Mod_isMended_13 (And.intro pa_Mod_isMended_14 (And.intro pa_Mod_isMended_15 (And.intro pa_Mod_isMended_16 (And.intro pa_Mod_isMended_17 (And.intro pa_Mod_isMended_18 (And.intro pa_Mod_isMended_19 (And.intro pa_Mod_isMended_20 (And.intro pa_Mod_isMended_21 (And.intro pa_Mod_isMended_22 (And.intro pa_Mod_isMended_23 (And.intro pa_Mod_isMended_24 (And.intro pa_Mod_isMended_25 (And.intro pa_Mod_isMended_26 (And.intro pa_Mod_isMended_27 (And.intro pa_Mod_isMended_28 (And.intro pa_Mod_isMended_29 (And.intro pa_Mod_isMended_30 (And.intro pa_Mod_isMended_31 (And.intro pa_Mod_isMended_32 (And.intro pa_Mod_isMended_33 (And.intro pa_Mod_isMended_34 (And.intro pa_Mod_isMended_35 (And.intro pa_Mod_isMended_36 (And.intro pa_Mod_isMended_37 (And.intro pa_Mod_isMended_38 (And.intro pa_Mod_isMended_39 (And.intro pa_Mod_isMended_40 (And.intro pa_Mod_isMended_41 (And.intro pa_Mod_isMended_42 (And.intro pa_Mod_isMended_43 (And.intro pa_Mod_isMended_44 (And.intro pa_Mod_isMended_45 (And.intro pa_Mod_isMended_46 (And.intro pa_Mod_isMended_47 (And.intro pa_Mod_isMended_48 (And.intro pa_Mod_isMended_49 (And.intro pa_Mod_isMended_50 (And.intro pa_Mod_isMended_51 (And.intro pa_Mod_isMended_52 (And.intro pa_Mod_isMended_53 (And.intro pa_Mod_isMended_54 (And.intro pa_Mod_isMended_55 (And.intro pa_Mod_isMended_56 (And.intro pa_Mod_isMended_57 (And.intro pa_Mod_isMended_58 (And.intro pa_Mod_isMended_59 (And.intro pa_Mod_isMended_60 (And.intro pa_Mod_isMended_61 (And.intro pa_Mod_isMended_62 (And.intro pa_Mod_isMended_63 (And.intro pa_Mod_isMended_64 (And.intro pa_Mod_isMended_65 (And.intro pa_Mod_isMended_66 (And.intro pa_Mod_isMended_67 (And.intro pa_Mod_isMended_68 (And.intro pa_Mod_isMended_69 (And.intro pa_Mod_isMended_70 (And.intro pa_Mod_isMended_71 (And.intro pa_Mod_isMended_72 (And.intro pa_Mod_isMended_73 (And.intro pa_Mod_isMended_74 (And.intro pa_Mod_isMended_75 (And.intro pa_Mod_isMended_76 (And.intro pa_Mod_isMended_77 (And.intro pa_Mod_isMended_78 (And.intro pa_Mod_isMended_79 (And.intro pa_Mod_isMended_80 (And.intro pa_Mod_isMended_81 (And.intro pa_Mod_isMended_82 (And.intro pa_Mod_isMended_83 (And.intro pa_Mod_isMended_84 (And.intro pa_Mod_isMended_85 (And.intro pa_Mod_isMended_86 (And.intro pa_Mod_isMended_87 (And.intro pa_Mod_isMended_88 (And.intro pa_Mod_isMended_89 (And.intro pa_Mod_isMended_90 (And.intro pa_Mod_isMended_91 (And.intro pa_Mod_isMended_92 (And.intro pa_Mod_isMended_93 (And.intro pa_Mod_isMended_94 (And.intro pa_Mod_isMended_95 (And.intro pa_Mod_isMended_96 (And.intro pa_Mod_isMended_97 (And.intro pa_Mod_isMended_98 (And.intro pa_Mod_isMended_99 (And.intro pa_Mod_isMended_100 (And.intro pa_Mod_isMended_101 (And.intro pa_Mod_isMended_102 (And.intro pa_Mod_isMended_103 (And.intro pa_Mod_isMended_104 (And.intro pa_Mod_isMended_105 (And.intro pa_Mod_isMended_106 (And.intro pa_Mod_isMended_107 (And.intro pa_Mod_isMended_108 (And.intro pa_Mod_isMended_109 (And.intro pa_Mod_isMended_110 (And.intro pa_Mod_isMended_111 (And.intro pa_Mod_isMended_112 (And.intro pa_Mod_isMended_113 (And.intro pa_Mod_isMended_114 (And.intro pa_Mod_isMended_115 (And.intro pa_Mod_isMended_116 (And.intro pa_Mod_isMended_117 (And.intro pa_Mod_isMended_118 (And.intro pa_Mod_isMended_119 (And.intro pa_Mod_isMended_120 (And.intro pa_Mod_isMended_121 (And.intro pa_Mod_isMended_122 (And.intro pa_Mod_isMended_123 (And.intro pa_Mod_isMended_124 (And.intro pa_Mod_isMended_125 (And.intro pa_Mod_isMended_126 (And.intro pa_Mod_isMended_127 (And.intro pa_Mod_isMended_128 (And.intro pa_Mod_isMended_129 (And.intro pa_Mod_isMended_130 (And.intro pa_Mod_isMended_131 (And.intro pa_Mod_isMended_132 (And.intro pa_Mod_isMended_133 (And.intro pa_Mod_isMended_134 (And.intro pa_Mod_isMended_135 (And.intro pa_Mod_isMended_136 (And.intro pa_Mod_isMended_137 (And.intro pa_Mod_isMended_138 (And.intro pa_Mod_isMended_139 (And.intro pa_Mod_isMended_140 (And.intro pa_Mod_isMended_141 (And.intro pa_Mod_isMended_142 (And.intro pa_Mod_isMended_143 (And.intro pa_Mod_isMended_144 (And.intro pa_Mod_isMended_145 (And.intro pa_Mod_isMended_146 (And.intro pa_Mod_isMended_147 (And.intro pa_Mod_isMended_148 (And.intro pa_Mod_isMended_149 (And.intro pa_Mod_isMended_150 (And.intro pa_Mod_isMended_151 (And.intro pa_Mod_isMended_152 (And.intro pa_Mod_isMended_153 (And.intro pa_Mod_isMended_154 (And.intro pa_Mod_isMended_155 (And.intro pa_Mod_isMended_156 (And.intro pa_Mod_isMended_157 (And.intro pa_Mod_isMended_158 (And.intro pa_Mod_isMended_159 (And.intro pa_Mod_isMended_160 (And.intro pa_Mod_isMended_161 (And.intro pa_Mod_isMended_162 (And.intro pa_Mod_isMended_163 (And.intro pa_Mod_isMended_164 (And.intro pa_Mod_isMended_165 (And.intro pa_Mod_isMended_166 (And.intro pa_Mod_isMended_167 (And.intro pa_Mod_isMended_168 (And.intro pa_Mod_isMended_169 (And.intro pa_Mod_isMended_170 (And.intro pa_Mod_isMended_171 (And.intro pa_Mod_isMended_172 (And.intro pa_Mod_isMended_173 (And.intro pa_Mod_isMended_174 (And.intro pa_Mod_isMended_175 (And.intro pa_Mod_isMended_176 (And.intro pa_Mod_isMended_177 (And.intro pa_Mod_isMended_178 (And.intro pa_Mod_isMended_179 (And.intro pa_Mod_isMended_180 (And.intro pa_Mod_isMended_181 (And.intro pa_Mod_isMended_182 (And.intro pa_Mod_isMended_183 (And.intro pa_Mod_isMended_184 (And.intro pa_Mod_isMended_185 (And.intro pa_Mod_isMended_186 (And.intro pa_Mod_isMended_187 (And.intro pa_Mod_isMended_188 (And.intro pa_Mod_isMended_189 (And.intro pa_Mod_isMended_190 (And.intro pa_Mod_isMended_191 (And.intro pa_Mod_isMended_192 (And.intro pa_Mod_isMended_193 (And.intro pa_Mod_isMended_194 (And.intro pa_Mod_isMended_195 (And.intro pa_Mod_isMended_196 (And.intro pa_Mod_isMended_197 (And.intro pa_Mod_isMended_198 (And.intro pa_Mod_isMended_199 (And.intro pa_Mod_isMended_200 (And.intro pa_Mod_isMended_201 (And.intro pa_Mod_isMended_202 (And.intro pa_Mod_isMended_203 (And.intro pa_Mod_isMended_204 (And.intro pa_Mod_isMended_205 (pa_Mod_isMended_206))))))))))))))))))))))))))))))))))))))))))))))))))))))))))))))))))))))))))))))))))))))))))))))))))))))))))))))))))))))))))))))))))))))))))))))))))))))))))))))))))))))))))))))))))))))))))))))))))))))))))))))
def pr_Dec_mendColumn : List ma_E := [(0, 1, .iconst 0, [0, 0]),
  (1, 1, .istore_n 3, []),
  (2, 1, .iload_n 3, []),
  (3, 2, .bipush 16, [16, 0]),
  (5, 3, .if_icmp .ge (52), [34]),
  (8, 1, .iload_n 1, []),
  (9, 2, .bipush 16, [16, 0]),
  (11, 1, .imul, []),
  (12, 1, .iload_n 3, []),
  (13, 1, .iadd, []),
  (14, 2, .istore 4, []),
  (16, 1, .aload_n 0, []),
  (17, 3, .getfield 47, [5, 0, 2, 0, 182]),
  (20, 1, .iload_n 3, []),
  (21, 1, .aload_n 0, []),
  (22, 3, .getfield 22, [5, 3, 2, 0, 185]),
  (25, 2, .iload 4, []),
  (27, 1, .iconst 4, [4, 0]),
  (28, 1, .imul, []),
  (29, 1, .iload_n 2, []),
  (30, 1, .iadd, []),
  (31, 1, .iaload, []),
  (32, 1, .aload_n 0, []),
  (33, 3, .getfield 18, [5, 2, 2, 0, 184]),
  (36, 2, .iload 4, []),
  (38, 1, .iaload, []),
  (39, 1, .iconst 1, [1, 0]),
  (40, 3, .if_icmp .eq (7), [30]),
  (43, 1, .iconst 1, [1, 0]),
  (44, 3, .goto (4), [31]),
  (47, 1, .iconst 0, [0, 0]),
  (48, 3, .invokevirtual 98, [12, 3, 4, 0, 508, 272, 273, 43]),
  (51, 3, .iinc 3 (1), [1, 0]),
  (54, 3, .goto (-52), [2]),
  (57, 1, .aload_n 0, []),
  (58, 3, .getfield 47, [5, 0, 2, 0, 182]),
  (61, 3, .invokevirtual 104, [95, 0, 4, 0, 509, 276, 277, 43]),
  (64, 3, .ifCond .ne (5), [40]),
  (67, 1, .iconst 0, [0, 0]),
  (68, 1, .ireturn, [1]),
  (69, 1, .iconst 0, [0, 0]),
  (70, 1, .istore_n 3, []),
  (71, 1, .iload_n 3, []),
  (72, 2, .bipush 16, [16, 0]),
  (74, 3, .if_icmp .ge (93), [101]),
  (77, 1, .iload_n 1, []),
  (78, 2, .bipush 16, [16, 0]),
  (80, 1, .imul, []),
  (81, 1, .iload_n 3, []),
  (82, 1, .iadd, []),
  (83, 2, .istore 4, []),
  (85, 1, .aload_n 0, []),
  (86, 3, .getfield 18, [5, 2, 2, 0, 184]),
  (89, 2, .iload 4, []),
  (91, 1, .iaload, []),
  (92, 1, .iconst 1, [1, 0]),
  (93, 3, .if_icmp .ne (38), [79]),
  (96, 1, .aload_n 0, []),
  (97, 3, .getfield 47, [5, 0, 2, 0, 182]),
  (100, 3, .getfield 108, [4, 1, 2, 1, 5]),
  (103, 1, .iload_n 3, []),
  (104, 1, .iaload, []),
  (105, 1, .aload_n 0, []),
  (106, 3, .getfield 22, [5, 3, 2, 0, 185]),
  (109, 2, .iload 4, []),
  (111, 1, .iconst 4, [4, 0]),
  (112, 1, .imul, []),
  (113, 1, .iload_n 2, []),
  (114, 1, .iadd, []),
  (115, 1, .iaload, []),
  (116, 3, .if_icmp .eq (15), [79]),
  (119, 1, .aload_n 0, []),
  (120, 1, .dup, []),
  (121, 3, .getfield 25, [5, 4, 0, 0, 186]),
  (124, 1, .iconst 1, [1, 0]),
  (125, 1, .iload_n 3, []),
  (126, 1, .ishl, []),
  (127, 1, .ior, []),
  (128, 3, .putfield 25, [5, 4, 0, 0, 186]),
  (131, 1, .iload_n 3, []),
  (132, 2, .bipush 10, [10, 0]),
  (134, 3, .if_icmp .ge (27), [99]),
  (137, 1, .aload_n 0, []),
  (138, 3, .getfield 38, [5, 8, 2, 0, 193]),
  (141, 1, .iload_n 1, []),
  (142, 2, .bipush 40, [40, 0]),
  (144, 1, .imul, []),
  (145, 1, .iload_n 3, []),
  (146, 1, .iconst 4, [4, 0]),
  (147, 1, .imul, []),
  (148, 1, .iadd, []),
  (149, 1, .iload_n 2, []),
  (150, 1, .iadd, []),
  (151, 1, .aload_n 0, []),
  (152, 3, .getfield 47, [5, 0, 2, 0, 182]),
  (155, 3, .getfield 108, [4, 1, 2, 1, 5]),
  (158, 1, .iload_n 3, []),
  (159, 1, .iaload, []),
  (160, 1, .iastore, []),
  (161, 3, .iinc 3 (1), [1, 0]),
  (164, 3, .goto (-93), [42]),
  (167, 1, .iconst 1, [1, 0]),
  (168, 1, .ireturn, [1])]
theorem po_Dec_mendColumn : ma_ok me_Dec_mendColumn pr_Dec_mendColumn := ma_ok_of (by decide +kernel)
theorem pa_Dec_mendColumn_0 : pr_Dec_mendColumn[0]? = some (0, 1, .iconst 0, [0, 0]) := rfl
theorem pa_Dec_mendColumn_1 : pr_Dec_mendColumn[1]? = some (1, 1, .istore_n 3, []) := rfl
theorem pa_Dec_mendColumn_2 : pr_Dec_mendColumn[2]? = some (2, 1, .iload_n 3, []) := rfl
theorem pa_Dec_mendColumn_3 : pr_Dec_mendColumn[3]? = some (3, 2, .bipush 16, [16, 0]) := rfl
theorem pa_Dec_mendColumn_4 : pr_Dec_mendColumn[4]? = some (5, 3, .if_icmp .ge (52), [34]) := rfl
theorem pa_Dec_mendColumn_5 : pr_Dec_mendColumn[5]? = some (8, 1, .iload_n 1, []) := rfl
theorem pa_Dec_mendColumn_6 : pr_Dec_mendColumn[6]? = some (9, 2, .bipush 16, [16, 0]) := rfl
theorem pa_Dec_mendColumn_7 : pr_Dec_mendColumn[7]? = some (11, 1, .imul, []) := rfl
theorem pa_Dec_mendColumn_8 : pr_Dec_mendColumn[8]? = some (12, 1, .iload_n 3, []) := rfl
theorem pa_Dec_mendColumn_9 : pr_Dec_mendColumn[9]? = some (13, 1, .iadd, []) := rfl
theorem pa_Dec_mendColumn_10 : pr_Dec_mendColumn[10]? = some (14, 2, .istore 4, []) := rfl
theorem pa_Dec_mendColumn_11 : pr_Dec_mendColumn[11]? = some (16, 1, .aload_n 0, []) := rfl
theorem pa_Dec_mendColumn_12 : pr_Dec_mendColumn[12]? = some (17, 3, .getfield 47, [5, 0, 2, 0, 182]) := rfl
theorem pa_Dec_mendColumn_13 : pr_Dec_mendColumn[13]? = some (20, 1, .iload_n 3, []) := rfl
theorem pa_Dec_mendColumn_14 : pr_Dec_mendColumn[14]? = some (21, 1, .aload_n 0, []) := rfl
theorem pa_Dec_mendColumn_15 : pr_Dec_mendColumn[15]? = some (22, 3, .getfield 22, [5, 3, 2, 0, 185]) := rfl
theorem pa_Dec_mendColumn_16 : pr_Dec_mendColumn[16]? = some (25, 2, .iload 4, []) := rfl
theorem pa_Dec_mendColumn_17 : pr_Dec_mendColumn[17]? = some (27, 1, .iconst 4, [4, 0]) := rfl
theorem pa_Dec_mendColumn_18 : pr_Dec_mendColumn[18]? = some (28, 1, .imul, []) := rfl
theorem pa_Dec_mendColumn_19 : pr_Dec_mendColumn[19]? = some (29, 1, .iload_n 2, []) := rfl
theorem pa_Dec_mendColumn_20 : pr_Dec_mendColumn[20]? = some (30, 1, .iadd, []) := rfl
theorem pa_Dec_mendColumn_21 : pr_Dec_mendColumn[21]? = some (31, 1, .iaload, []) := rfl
theorem pa_Dec_mendColumn_22 : pr_Dec_mendColumn[22]? = some (32, 1, .aload_n 0, []) := rfl
theorem pa_Dec_mendColumn_23 : pr_Dec_mendColumn[23]? = some (33, 3, .getfield 18, [5, 2, 2, 0, 184]) := rfl
theorem pa_Dec_mendColumn_24 : pr_Dec_mendColumn[24]? = some (36, 2, .iload 4, []) := rfl
theorem pa_Dec_mendColumn_25 : pr_Dec_mendColumn[25]? = some (38, 1, .iaload, []) := rfl
theorem pa_Dec_mendColumn_26 : pr_Dec_mendColumn[26]? = some (39, 1, .iconst 1, [1, 0]) := rfl
theorem pa_Dec_mendColumn_27 : pr_Dec_mendColumn[27]? = some (40, 3, .if_icmp .eq (7), [30]) := rfl
theorem pa_Dec_mendColumn_28 : pr_Dec_mendColumn[28]? = some (43, 1, .iconst 1, [1, 0]) := rfl
theorem pa_Dec_mendColumn_29 : pr_Dec_mendColumn[29]? = some (44, 3, .goto (4), [31]) := rfl
theorem pa_Dec_mendColumn_30 : pr_Dec_mendColumn[30]? = some (47, 1, .iconst 0, [0, 0]) := rfl
theorem pa_Dec_mendColumn_31 : pr_Dec_mendColumn[31]? = some (48, 3, .invokevirtual 98, [12, 3, 4, 0, 508, 272, 273, 43]) := rfl
theorem pa_Dec_mendColumn_32 : pr_Dec_mendColumn[32]? = some (51, 3, .iinc 3 (1), [1, 0]) := rfl
theorem pa_Dec_mendColumn_33 : pr_Dec_mendColumn[33]? = some (54, 3, .goto (-52), [2]) := rfl
theorem pa_Dec_mendColumn_34 : pr_Dec_mendColumn[34]? = some (57, 1, .aload_n 0, []) := rfl
theorem pa_Dec_mendColumn_35 : pr_Dec_mendColumn[35]? = some (58, 3, .getfield 47, [5, 0, 2, 0, 182]) := rfl
theorem pa_Dec_mendColumn_36 : pr_Dec_mendColumn[36]? = some (61, 3, .invokevirtual 104, [95, 0, 4, 0, 509, 276, 277, 43]) := rfl
theorem pa_Dec_mendColumn_37 : pr_Dec_mendColumn[37]? = some (64, 3, .ifCond .ne (5), [40]) := rfl
theorem pa_Dec_mendColumn_38 : pr_Dec_mendColumn[38]? = some (67, 1, .iconst 0, [0, 0]) := rfl
theorem pa_Dec_mendColumn_39 : pr_Dec_mendColumn[39]? = some (68, 1, .ireturn, [1]) := rfl
theorem pa_Dec_mendColumn_40 : pr_Dec_mendColumn[40]? = some (69, 1, .iconst 0, [0, 0]) := rfl
theorem pa_Dec_mendColumn_41 : pr_Dec_mendColumn[41]? = some (70, 1, .istore_n 3, []) := rfl
theorem pa_Dec_mendColumn_42 : pr_Dec_mendColumn[42]? = some (71, 1, .iload_n 3, []) := rfl
theorem pa_Dec_mendColumn_43 : pr_Dec_mendColumn[43]? = some (72, 2, .bipush 16, [16, 0]) := rfl
theorem pa_Dec_mendColumn_44 : pr_Dec_mendColumn[44]? = some (74, 3, .if_icmp .ge (93), [101]) := rfl
theorem pa_Dec_mendColumn_45 : pr_Dec_mendColumn[45]? = some (77, 1, .iload_n 1, []) := rfl
theorem pa_Dec_mendColumn_46 : pr_Dec_mendColumn[46]? = some (78, 2, .bipush 16, [16, 0]) := rfl
theorem pa_Dec_mendColumn_47 : pr_Dec_mendColumn[47]? = some (80, 1, .imul, []) := rfl
theorem pa_Dec_mendColumn_48 : pr_Dec_mendColumn[48]? = some (81, 1, .iload_n 3, []) := rfl
theorem pa_Dec_mendColumn_49 : pr_Dec_mendColumn[49]? = some (82, 1, .iadd, []) := rfl
theorem pa_Dec_mendColumn_50 : pr_Dec_mendColumn[50]? = some (83, 2, .istore 4, []) := rfl
theorem pa_Dec_mendColumn_51 : pr_Dec_mendColumn[51]? = some (85, 1, .aload_n 0, []) := rfl
theorem pa_Dec_mendColumn_52 : pr_Dec_mendColumn[52]? = some (86, 3, .getfield 18, [5, 2, 2, 0, 184]) := rfl
theorem pa_Dec_mendColumn_53 : pr_Dec_mendColumn[53]? = some (89, 2, .iload 4, []) := rfl
theorem pa_Dec_mendColumn_54 : pr_Dec_mendColumn[54]? = some (91, 1, .iaload, []) := rfl
theorem pa_Dec_mendColumn_55 : pr_Dec_mendColumn[55]? = some (92, 1, .iconst 1, [1, 0]) := rfl
theorem pa_Dec_mendColumn_56 : pr_Dec_mendColumn[56]? = some (93, 3, .if_icmp .ne (38), [79]) := rfl
theorem pa_Dec_mendColumn_57 : pr_Dec_mendColumn[57]? = some (96, 1, .aload_n 0, []) := rfl
theorem pa_Dec_mendColumn_58 : pr_Dec_mendColumn[58]? = some (97, 3, .getfield 47, [5, 0, 2, 0, 182]) := rfl
theorem pa_Dec_mendColumn_59 : pr_Dec_mendColumn[59]? = some (100, 3, .getfield 108, [4, 1, 2, 1, 5]) := rfl
theorem pa_Dec_mendColumn_60 : pr_Dec_mendColumn[60]? = some (103, 1, .iload_n 3, []) := rfl
theorem pa_Dec_mendColumn_61 : pr_Dec_mendColumn[61]? = some (104, 1, .iaload, []) := rfl
theorem pa_Dec_mendColumn_62 : pr_Dec_mendColumn[62]? = some (105, 1, .aload_n 0, []) := rfl
theorem pa_Dec_mendColumn_63 : pr_Dec_mendColumn[63]? = some (106, 3, .getfield 22, [5, 3, 2, 0, 185]) := rfl
theorem pa_Dec_mendColumn_64 : pr_Dec_mendColumn[64]? = some (109, 2, .iload 4, []) := rfl
theorem pa_Dec_mendColumn_65 : pr_Dec_mendColumn[65]? = some (111, 1, .iconst 4, [4, 0]) := rfl
theorem pa_Dec_mendColumn_66 : pr_Dec_mendColumn[66]? = some (112, 1, .imul, []) := rfl
theorem pa_Dec_mendColumn_67 : pr_Dec_mendColumn[67]? = some (113, 1, .iload_n 2, []) := rfl
theorem pa_Dec_mendColumn_68 : pr_Dec_mendColumn[68]? = some (114, 1, .iadd, []) := rfl
theorem pa_Dec_mendColumn_69 : pr_Dec_mendColumn[69]? = some (115, 1, .iaload, []) := rfl
theorem pa_Dec_mendColumn_70 : pr_Dec_mendColumn[70]? = some (116, 3, .if_icmp .eq (15), [79]) := rfl
theorem pa_Dec_mendColumn_71 : pr_Dec_mendColumn[71]? = some (119, 1, .aload_n 0, []) := rfl
theorem pa_Dec_mendColumn_72 : pr_Dec_mendColumn[72]? = some (120, 1, .dup, []) := rfl
theorem pa_Dec_mendColumn_73 : pr_Dec_mendColumn[73]? = some (121, 3, .getfield 25, [5, 4, 0, 0, 186]) := rfl
theorem pa_Dec_mendColumn_74 : pr_Dec_mendColumn[74]? = some (124, 1, .iconst 1, [1, 0]) := rfl
theorem pa_Dec_mendColumn_75 : pr_Dec_mendColumn[75]? = some (125, 1, .iload_n 3, []) := rfl
theorem pa_Dec_mendColumn_76 : pr_Dec_mendColumn[76]? = some (126, 1, .ishl, []) := rfl
theorem pa_Dec_mendColumn_77 : pr_Dec_mendColumn[77]? = some (127, 1, .ior, []) := rfl
theorem pa_Dec_mendColumn_78 : pr_Dec_mendColumn[78]? = some (128, 3, .putfield 25, [5, 4, 0, 0, 186]) := rfl
theorem pa_Dec_mendColumn_79 : pr_Dec_mendColumn[79]? = some (131, 1, .iload_n 3, []) := rfl
theorem pa_Dec_mendColumn_80 : pr_Dec_mendColumn[80]? = some (132, 2, .bipush 10, [10, 0]) := rfl
theorem pa_Dec_mendColumn_81 : pr_Dec_mendColumn[81]? = some (134, 3, .if_icmp .ge (27), [99]) := rfl
theorem pa_Dec_mendColumn_82 : pr_Dec_mendColumn[82]? = some (137, 1, .aload_n 0, []) := rfl
theorem pa_Dec_mendColumn_83 : pr_Dec_mendColumn[83]? = some (138, 3, .getfield 38, [5, 8, 2, 0, 193]) := rfl
theorem pa_Dec_mendColumn_84 : pr_Dec_mendColumn[84]? = some (141, 1, .iload_n 1, []) := rfl
theorem pa_Dec_mendColumn_85 : pr_Dec_mendColumn[85]? = some (142, 2, .bipush 40, [40, 0]) := rfl
theorem pa_Dec_mendColumn_86 : pr_Dec_mendColumn[86]? = some (144, 1, .imul, []) := rfl
theorem pa_Dec_mendColumn_87 : pr_Dec_mendColumn[87]? = some (145, 1, .iload_n 3, []) := rfl
theorem pa_Dec_mendColumn_88 : pr_Dec_mendColumn[88]? = some (146, 1, .iconst 4, [4, 0]) := rfl
theorem pa_Dec_mendColumn_89 : pr_Dec_mendColumn[89]? = some (147, 1, .imul, []) := rfl
theorem pa_Dec_mendColumn_90 : pr_Dec_mendColumn[90]? = some (148, 1, .iadd, []) := rfl
theorem pa_Dec_mendColumn_91 : pr_Dec_mendColumn[91]? = some (149, 1, .iload_n 2, []) := rfl
theorem pa_Dec_mendColumn_92 : pr_Dec_mendColumn[92]? = some (150, 1, .iadd, []) := rfl
theorem pa_Dec_mendColumn_93 : pr_Dec_mendColumn[93]? = some (151, 1, .aload_n 0, []) := rfl
theorem pa_Dec_mendColumn_94 : pr_Dec_mendColumn[94]? = some (152, 3, .getfield 47, [5, 0, 2, 0, 182]) := rfl
theorem pa_Dec_mendColumn_95 : pr_Dec_mendColumn[95]? = some (155, 3, .getfield 108, [4, 1, 2, 1, 5]) := rfl
theorem pa_Dec_mendColumn_96 : pr_Dec_mendColumn[96]? = some (158, 1, .iload_n 3, []) := rfl
theorem pa_Dec_mendColumn_97 : pr_Dec_mendColumn[97]? = some (159, 1, .iaload, []) := rfl
theorem pa_Dec_mendColumn_98 : pr_Dec_mendColumn[98]? = some (160, 1, .iastore, []) := rfl
theorem pa_Dec_mendColumn_99 : pr_Dec_mendColumn[99]? = some (161, 3, .iinc 3 (1), [1, 0]) := rfl
theorem pa_Dec_mendColumn_100 : pr_Dec_mendColumn[100]? = some (164, 3, .goto (-93), [42]) := rfl
theorem pa_Dec_mendColumn_101 : pr_Dec_mendColumn[101]? = some (167, 1, .iconst 1, [1, 0]) := rfl
theorem pa_Dec_mendColumn_102 : pr_Dec_mendColumn[102]? = some (168, 1, .ireturn, [1]) := rfl
def pa_Dec_mendColumn := And.intro pa_Dec_mendColumn_0 (And.intro pa_Dec_mendColumn_1 (And.intro pa_Dec_mendColumn_2 (And.intro pa_Dec_mendColumn_3 (And.intro pa_Dec_mendColumn_4 (And.intro pa_Dec_mendColumn_5 (And.intro pa_Dec_mendColumn_6 (And.intro pa_Dec_mendColumn_7 (And.intro pa_Dec_mendColumn_8 (And.intro pa_Dec_mendColumn_9 (And.intro pa_Dec_mendColumn_10 (And.intro pa_Dec_mendColumn_11 (And.intro pa_Dec_mendColumn_12 (And.intro pa_Dec_mendColumn_13 (And.intro pa_Dec_mendColumn_14 (And.intro pa_Dec_mendColumn_15 (And.intro pa_Dec_mendColumn_16 (And.intro pa_Dec_mendColumn_17 (And.intro pa_Dec_mendColumn_18 (And.intro pa_Dec_mendColumn_19 (And.intro pa_Dec_mendColumn_20 (And.intro pa_Dec_mendColumn_21 (And.intro pa_Dec_mendColumn_22 (And.intro pa_Dec_mendColumn_23 (And.intro pa_Dec_mendColumn_24 (And.intro pa_Dec_mendColumn_25 (And.intro pa_Dec_mendColumn_26 (And.intro pa_Dec_mendColumn_27 (And.intro pa_Dec_mendColumn_28 (And.intro pa_Dec_mendColumn_29 (And.intro pa_Dec_mendColumn_30 (And.intro pa_Dec_mendColumn_31 (And.intro pa_Dec_mendColumn_32 (And.intro pa_Dec_mendColumn_33 (And.intro pa_Dec_mendColumn_34 (And.intro pa_Dec_mendColumn_35 (And.intro pa_Dec_mendColumn_36 (And.intro pa_Dec_mendColumn_37 (And.intro pa_Dec_mendColumn_38 (And.intro pa_Dec_mendColumn_39 (And.intro pa_Dec_mendColumn_40 (And.intro pa_Dec_mendColumn_41 (And.intro pa_Dec_mendColumn_42 (And.intro pa_Dec_mendColumn_43 (And.intro pa_Dec_mendColumn_44 (And.intro pa_Dec_mendColumn_45 (And.intro pa_Dec_mendColumn_46 (And.intro pa_Dec_mendColumn_47 (And.intro pa_Dec_mendColumn_48 (And.intro pa_Dec_mendColumn_49 (And.intro pa_Dec_mendColumn_50 (And.intro pa_Dec_mendColumn_51 (And.intro pa_Dec_mendColumn_52 (And.intro pa_Dec_mendColumn_53 (And.intro pa_Dec_mendColumn_54 (And.intro pa_Dec_mendColumn_55 (And.intro pa_Dec_mendColumn_56 (And.intro pa_Dec_mendColumn_57 (And.intro pa_Dec_mendColumn_58 (And.intro pa_Dec_mendColumn_59 (And.intro pa_Dec_mendColumn_60 (And.intro pa_Dec_mendColumn_61 (And.intro pa_Dec_mendColumn_62 (And.intro pa_Dec_mendColumn_63 (And.intro pa_Dec_mendColumn_64 (And.intro pa_Dec_mendColumn_65 (And.intro pa_Dec_mendColumn_66 (And.intro pa_Dec_mendColumn_67 (And.intro pa_Dec_mendColumn_68 (And.intro pa_Dec_mendColumn_69 (And.intro pa_Dec_mendColumn_70 (And.intro pa_Dec_mendColumn_71 (And.intro pa_Dec_mendColumn_72 (And.intro pa_Dec_mendColumn_73 (And.intro pa_Dec_mendColumn_74 (And.intro pa_Dec_mendColumn_75 (And.intro pa_Dec_mendColumn_76 (And.intro pa_Dec_mendColumn_77 (And.intro pa_Dec_mendColumn_78 (And.intro pa_Dec_mendColumn_79 (And.intro pa_Dec_mendColumn_80 (And.intro pa_Dec_mendColumn_81 (And.intro pa_Dec_mendColumn_82 (And.intro pa_Dec_mendColumn_83 (And.intro pa_Dec_mendColumn_84 (And.intro pa_Dec_mendColumn_85 (And.intro pa_Dec_mendColumn_86 (And.intro pa_Dec_mendColumn_87 (And.intro pa_Dec_mendColumn_88 (And.intro pa_Dec_mendColumn_89 (And.intro pa_Dec_mendColumn_90 (And.intro pa_Dec_mendColumn_91 (And.intro pa_Dec_mendColumn_92 (And.intro pa_Dec_mendColumn_93 (And.intro pa_Dec_mendColumn_94 (And.intro pa_Dec_mendColumn_95 (And.intro pa_Dec_mendColumn_96 (And.intro pa_Dec_mendColumn_97 (And.intro pa_Dec_mendColumn_98 (And.intro pa_Dec_mendColumn_99 (And.intro pa_Dec_mendColumn_100 (And.intro pa_Dec_mendColumn_101 (pa_Dec_mendColumn_102))))))))))))))))))))))))))))))))))))))))))))))))))))))))))))))))))))))))))))))))))))))))))))))))))))))
def pr_Dec_take : List ma_E := [(0, 1, .aload_n 0, []),
  (1, 3, .getfield 12, [5, 1, 2, 0, 183]),
  (4, 1, .aload_n 1, []),
  (5, 3, .invokevirtual 57, [94, 1, 3, 0, 452, 453, 454, 46]),
  (8, 3, .ifCond .eq (21), [13]),
  (11, 1, .aload_n 0, []),
  (12, 1, .aload_n 0, []),
  (13, 3, .getfield 12, [5, 1, 2, 0, 183]),
  (16, 3, .getfield 61, [3, 0, 2, 1, 8]),
  (19, 1, .iconst 0, [0, 0]),
  (20, 3, .invokevirtual 65, [45, 1, 2, 0, 486, 487, 488, 44]),
  (23, 3, .invokevirtual 71, [56, 1, 5, 0, 491, 493, 23, 45]),
  (26, 3, .goto (4), [14]),
  (29, 1, .iconst (-1), [1, 1]),
  (30, 1, .istore_n 2, []),
  (31, 1, .aload_n 0, []),
  (32, 3, .getfield 12, [5, 1, 2, 0, 183]),
  (35, 3, .getfield 61, [3, 0, 2, 1, 8]),
  (38, 1, .iconst 1, [1, 0]),
  (39, 3, .invokevirtual 65, [45, 1, 2, 0, 486, 487, 488, 44]),
  (42, 1, .istore_n 3, []),
  (43, 1, .aload_n 0, []),
  (44, 3, .getfield 12, [5, 1, 2, 0, 183]),
  (47, 3, .getfield 61, [3, 0, 2, 1, 8]),
  (50, 1, .iconst 2, [2, 0]),
  (51, 3, .invokevirtual 65, [45, 1, 2, 0, 486, 487, 488, 44]),
  (54, 2, .istore 4, []),
  (56, 1, .iload_n 2, []),
  (57, 1, .iconst (-1), [1, 1]),
  (58, 3, .if_icmp .eq (14), [36]),
  (61, 1, .iload_n 3, []),
  (62, 1, .iconst (-1), [1, 1]),
  (63, 3, .if_icmp .eq (9), [36]),
  (66, 2, .iload 4, []),
  (68, 1, .iconst (-1), [1, 1]),
  (69, 3, .if_icmp .ne (14), [43]),
  (72, 1, .aload_n 0, []),
  (73, 1, .dup, []),
  (74, 3, .getfield 35, [5, 7, 0, 0, 191]),
  (77, 1, .iconst 1, [1, 0]),
  (78, 1, .iadd, []),
  (79, 3, .putfield 35, [5, 7, 0, 0, 191]),
  (82, 1, .return_, []),
  (83, 1, .aload_n 0, []),
  (84, 1, .dup, []),
  (85, 3, .getfield 32, [5, 6, 0, 0, 189]),
  (88, 1, .aload_n 1, []),
  (89, 3, .getfield 74, [0, 2, 0, 1, 3]),
  (92, 2, .bipush 45, [45, 0]),
  (94, 3, .if_icmp .ne (7), [52]),
  (97, 1, .iconst 0, [0, 0]),
  (98, 3, .goto (4), [53]),
  (101, 1, .iconst 1, [1, 0]),
  (102, 1, .iadd, []),
  (103, 3, .putfield 32, [5, 6, 0, 0, 189]),
  (106, 1, .aload_n 0, []),
  (107, 3, .getfield 18, [5, 2, 2, 0, 184]),
  (110, 1, .iload_n 2, []),
  (111, 1, .dup2, []),
  (112, 1, .iaload, []),
  (113, 1, .iconst 1, [1, 0]),
  (114, 1, .iadd, []),
  (115, 1, .iastore, []),
  (116, 1, .iload_n 2, []),
  (117, 1, .iconst 4, [4, 0]),
  (118, 1, .imul, []),
  (119, 2, .istore 5, []),
  (121, 1, .aload_n 0, []),
  (122, 3, .getfield 22, [5, 3, 2, 0, 185]),
  (125, 2, .iload 5, []),
  (127, 1, .iload_n 3, []),
  (128, 3, .sipush 256, [256, 0]),
  (131, 1, .idiv, []),
  (132, 1, .iastore, []),
  (133, 1, .aload_n 0, []),
  (134, 3, .getfield 22, [5, 3, 2, 0, 185]),
  (137, 2, .iload 5, []),
  (139, 1, .iconst 1, [1, 0]),
  (140, 1, .iadd, []),
  (141, 1, .iload_n 3, []),
  (142, 3, .sipush 256, [256, 0]),
  (145, 1, .irem, []),
  (146, 1, .iastore, []),
  (147, 1, .aload_n 0, []),
  (148, 3, .getfield 22, [5, 3, 2, 0, 185]),
  (151, 2, .iload 5, []),
  (153, 1, .iconst 2, [2, 0]),
  (154, 1, .iadd, []),
  (155, 2, .iload 4, []),
  (157, 3, .sipush 256, [256, 0]),
  (160, 1, .idiv, []),
  (161, 1, .iastore, []),
  (162, 1, .aload_n 0, []),
  (163, 3, .getfield 22, [5, 3, 2, 0, 185]),
  (166, 2, .iload 5, []),
  (168, 1, .iconst 3, [3, 0]),
  (169, 1, .iadd, []),
  (170, 2, .iload 4, []),
  (172, 3, .sipush 256, [256, 0]),
  (175, 1, .irem, []),
  (176, 1, .iastore, []),
  (177, 1, .return_, [])]
theorem po_Dec_take : ma_ok me_Dec_take pr_Dec_take := ma_ok_of (by decide +kernel)
theorem pa_Dec_take_0 : pr_Dec_take[0]? = some (0, 1, .aload_n 0, []) := rfl
theorem pa_Dec_take_1 : pr_Dec_take[1]? = some (1, 3, .getfield 12, [5, 1, 2, 0, 183]) := rfl
theorem pa_Dec_take_2 : pr_Dec_take[2]? = some (4, 1, .aload_n 1, []) := rfl
theorem pa_Dec_take_3 : pr_Dec_take[3]? = some (5, 3, .invokevirtual 57, [94, 1, 3, 0, 452, 453, 454, 46]) := rfl
theorem pa_Dec_take_4 : pr_Dec_take[4]? = some (8, 3, .ifCond .eq (21), [13]) := rfl
theorem pa_Dec_take_5 : pr_Dec_take[5]? = some (11, 1, .aload_n 0, []) := rfl
theorem pa_Dec_take_6 : pr_Dec_take[6]? = some (12, 1, .aload_n 0, []) := rfl
theorem pa_Dec_take_7 : pr_Dec_take[7]? = some (13, 3, .getfield 12, [5, 1, 2, 0, 183]) := rfl
theorem pa_Dec_take_8 : pr_Dec_take[8]? = some (16, 3, .getfield 61, [3, 0, 2, 1, 8]) := rfl
theorem pa_Dec_take_9 : pr_Dec_take[9]? = some (19, 1, .iconst 0, [0, 0]) := rfl
theorem pa_Dec_take_10 : pr_Dec_take[10]? = some (20, 3, .invokevirtual 65, [45, 1, 2, 0, 486, 487, 488, 44]) := rfl
theorem pa_Dec_take_11 : pr_Dec_take[11]? = some (23, 3, .invokevirtual 71, [56, 1, 5, 0, 491, 493, 23, 45]) := rfl
theorem pa_Dec_take_12 : pr_Dec_take[12]? = some (26, 3, .goto (4), [14]) := rfl
theorem pa_Dec_take_13 : pr_Dec_take[13]? = some (29, 1, .iconst (-1), [1, 1]) := rfl
theorem pa_Dec_take_14 : pr_Dec_take[14]? = some (30, 1, .istore_n 2, []) := rfl
theorem pa_Dec_take_15 : pr_Dec_take[15]? = some (31, 1, .aload_n 0, []) := rfl
theorem pa_Dec_take_16 : pr_Dec_take[16]? = some (32, 3, .getfield 12, [5, 1, 2, 0, 183]) := rfl
theorem pa_Dec_take_17 : pr_Dec_take[17]? = some (35, 3, .getfield 61, [3, 0, 2, 1, 8]) := rfl
theorem pa_Dec_take_18 : pr_Dec_take[18]? = some (38, 1, .iconst 1, [1, 0]) := rfl
theorem pa_Dec_take_19 : pr_Dec_take[19]? = some (39, 3, .invokevirtual 65, [45, 1, 2, 0, 486, 487, 488, 44]) := rfl
theorem pa_Dec_take_20 : pr_Dec_take[20]? = some (42, 1, .istore_n 3, []) := rfl
theorem pa_Dec_take_21 : pr_Dec_take[21]? = some (43, 1, .aload_n 0, []) := rfl
theorem pa_Dec_take_22 : pr_Dec_take[22]? = some (44, 3, .getfield 12, [5, 1, 2, 0, 183]) := rfl
theorem pa_Dec_take_23 : pr_Dec_take[23]? = some (47, 3, .getfield 61, [3, 0, 2, 1, 8]) := rfl
theorem pa_Dec_take_24 : pr_Dec_take[24]? = some (50, 1, .iconst 2, [2, 0]) := rfl
theorem pa_Dec_take_25 : pr_Dec_take[25]? = some (51, 3, .invokevirtual 65, [45, 1, 2, 0, 486, 487, 488, 44]) := rfl
theorem pa_Dec_take_26 : pr_Dec_take[26]? = some (54, 2, .istore 4, []) := rfl
theorem pa_Dec_take_27 : pr_Dec_take[27]? = some (56, 1, .iload_n 2, []) := rfl
theorem pa_Dec_take_28 : pr_Dec_take[28]? = some (57, 1, .iconst (-1), [1, 1]) := rfl
theorem pa_Dec_take_29 : pr_Dec_take[29]? = some (58, 3, .if_icmp .eq (14), [36]) := rfl
theorem pa_Dec_take_30 : pr_Dec_take[30]? = some (61, 1, .iload_n 3, []) := rfl
theorem pa_Dec_take_31 : pr_Dec_take[31]? = some (62, 1, .iconst (-1), [1, 1]) := rfl
theorem pa_Dec_take_32 : pr_Dec_take[32]? = some (63, 3, .if_icmp .eq (9), [36]) := rfl
theorem pa_Dec_take_33 : pr_Dec_take[33]? = some (66, 2, .iload 4, []) := rfl
theorem pa_Dec_take_34 : pr_Dec_take[34]? = some (68, 1, .iconst (-1), [1, 1]) := rfl
theorem pa_Dec_take_35 : pr_Dec_take[35]? = some (69, 3, .if_icmp .ne (14), [43]) := rfl
theorem pa_Dec_take_36 : pr_Dec_take[36]? = some (72, 1, .aload_n 0, []) := rfl
theorem pa_Dec_take_37 : pr_Dec_take[37]? = some (73, 1, .dup, []) := rfl
theorem pa_Dec_take_38 : pr_Dec_take[38]? = some (74, 3, .getfield 35, [5, 7, 0, 0, 191]) := rfl
theorem pa_Dec_take_39 : pr_Dec_take[39]? = some (77, 1, .iconst 1, [1, 0]) := rfl
theorem pa_Dec_take_40 : pr_Dec_take[40]? = some (78, 1, .iadd, []) := rfl
theorem pa_Dec_take_41 : pr_Dec_take[41]? = some (79, 3, .putfield 35, [5, 7, 0, 0, 191]) := rfl
theorem pa_Dec_take_42 : pr_Dec_take[42]? = some (82, 1, .return_, []) := rfl
theorem pa_Dec_take_43 : pr_Dec_take[43]? = some (83, 1, .aload_n 0, []) := rfl
theorem pa_Dec_take_44 : pr_Dec_take[44]? = some (84, 1, .dup, []) := rfl
theorem pa_Dec_take_45 : pr_Dec_take[45]? = some (85, 3, .getfield 32, [5, 6, 0, 0, 189]) := rfl
theorem pa_Dec_take_46 : pr_Dec_take[46]? = some (88, 1, .aload_n 1, []) := rfl
theorem pa_Dec_take_47 : pr_Dec_take[47]? = some (89, 3, .getfield 74, [0, 2, 0, 1, 3]) := rfl
theorem pa_Dec_take_48 : pr_Dec_take[48]? = some (92, 2, .bipush 45, [45, 0]) := rfl
theorem pa_Dec_take_49 : pr_Dec_take[49]? = some (94, 3, .if_icmp .ne (7), [52]) := rfl
theorem pa_Dec_take_50 : pr_Dec_take[50]? = some (97, 1, .iconst 0, [0, 0]) := rfl
theorem pa_Dec_take_51 : pr_Dec_take[51]? = some (98, 3, .goto (4), [53]) := rfl
theorem pa_Dec_take_52 : pr_Dec_take[52]? = some (101, 1, .iconst 1, [1, 0]) := rfl
theorem pa_Dec_take_53 : pr_Dec_take[53]? = some (102, 1, .iadd, []) := rfl
theorem pa_Dec_take_54 : pr_Dec_take[54]? = some (103, 3, .putfield 32, [5, 6, 0, 0, 189]) := rfl
theorem pa_Dec_take_55 : pr_Dec_take[55]? = some (106, 1, .aload_n 0, []) := rfl
theorem pa_Dec_take_56 : pr_Dec_take[56]? = some (107, 3, .getfield 18, [5, 2, 2, 0, 184]) := rfl
theorem pa_Dec_take_57 : pr_Dec_take[57]? = some (110, 1, .iload_n 2, []) := rfl
theorem pa_Dec_take_58 : pr_Dec_take[58]? = some (111, 1, .dup2, []) := rfl
theorem pa_Dec_take_59 : pr_Dec_take[59]? = some (112, 1, .iaload, []) := rfl
theorem pa_Dec_take_60 : pr_Dec_take[60]? = some (113, 1, .iconst 1, [1, 0]) := rfl
theorem pa_Dec_take_61 : pr_Dec_take[61]? = some (114, 1, .iadd, []) := rfl
theorem pa_Dec_take_62 : pr_Dec_take[62]? = some (115, 1, .iastore, []) := rfl
theorem pa_Dec_take_63 : pr_Dec_take[63]? = some (116, 1, .iload_n 2, []) := rfl
theorem pa_Dec_take_64 : pr_Dec_take[64]? = some (117, 1, .iconst 4, [4, 0]) := rfl
theorem pa_Dec_take_65 : pr_Dec_take[65]? = some (118, 1, .imul, []) := rfl
theorem pa_Dec_take_66 : pr_Dec_take[66]? = some (119, 2, .istore 5, []) := rfl
theorem pa_Dec_take_67 : pr_Dec_take[67]? = some (121, 1, .aload_n 0, []) := rfl
theorem pa_Dec_take_68 : pr_Dec_take[68]? = some (122, 3, .getfield 22, [5, 3, 2, 0, 185]) := rfl
theorem pa_Dec_take_69 : pr_Dec_take[69]? = some (125, 2, .iload 5, []) := rfl
theorem pa_Dec_take_70 : pr_Dec_take[70]? = some (127, 1, .iload_n 3, []) := rfl
theorem pa_Dec_take_71 : pr_Dec_take[71]? = some (128, 3, .sipush 256, [256, 0]) := rfl
theorem pa_Dec_take_72 : pr_Dec_take[72]? = some (131, 1, .idiv, []) := rfl
theorem pa_Dec_take_73 : pr_Dec_take[73]? = some (132, 1, .iastore, []) := rfl
theorem pa_Dec_take_74 : pr_Dec_take[74]? = some (133, 1, .aload_n 0, []) := rfl
theorem pa_Dec_take_75 : pr_Dec_take[75]? = some (134, 3, .getfield 22, [5, 3, 2, 0, 185]) := rfl
theorem pa_Dec_take_76 : pr_Dec_take[76]? = some (137, 2, .iload 5, []) := rfl
theorem pa_Dec_take_77 : pr_Dec_take[77]? = some (139, 1, .iconst 1, [1, 0]) := rfl
theorem pa_Dec_take_78 : pr_Dec_take[78]? = some (140, 1, .iadd, []) := rfl
theorem pa_Dec_take_79 : pr_Dec_take[79]? = some (141, 1, .iload_n 3, []) := rfl
theorem pa_Dec_take_80 : pr_Dec_take[80]? = some (142, 3, .sipush 256, [256, 0]) := rfl
theorem pa_Dec_take_81 : pr_Dec_take[81]? = some (145, 1, .irem, []) := rfl
theorem pa_Dec_take_82 : pr_Dec_take[82]? = some (146, 1, .iastore, []) := rfl
theorem pa_Dec_take_83 : pr_Dec_take[83]? = some (147, 1, .aload_n 0, []) := rfl
theorem pa_Dec_take_84 : pr_Dec_take[84]? = some (148, 3, .getfield 22, [5, 3, 2, 0, 185]) := rfl
theorem pa_Dec_take_85 : pr_Dec_take[85]? = some (151, 2, .iload 5, []) := rfl
theorem pa_Dec_take_86 : pr_Dec_take[86]? = some (153, 1, .iconst 2, [2, 0]) := rfl
theorem pa_Dec_take_87 : pr_Dec_take[87]? = some (154, 1, .iadd, []) := rfl
theorem pa_Dec_take_88 : pr_Dec_take[88]? = some (155, 2, .iload 4, []) := rfl
theorem pa_Dec_take_89 : pr_Dec_take[89]? = some (157, 3, .sipush 256, [256, 0]) := rfl
theorem pa_Dec_take_90 : pr_Dec_take[90]? = some (160, 1, .idiv, []) := rfl
theorem pa_Dec_take_91 : pr_Dec_take[91]? = some (161, 1, .iastore, []) := rfl
theorem pa_Dec_take_92 : pr_Dec_take[92]? = some (162, 1, .aload_n 0, []) := rfl
theorem pa_Dec_take_93 : pr_Dec_take[93]? = some (163, 3, .getfield 22, [5, 3, 2, 0, 185]) := rfl
theorem pa_Dec_take_94 : pr_Dec_take[94]? = some (166, 2, .iload 5, []) := rfl
theorem pa_Dec_take_95 : pr_Dec_take[95]? = some (168, 1, .iconst 3, [3, 0]) := rfl
theorem pa_Dec_take_96 : pr_Dec_take[96]? = some (169, 1, .iadd, []) := rfl
theorem pa_Dec_take_97 : pr_Dec_take[97]? = some (170, 2, .iload 4, []) := rfl
theorem pa_Dec_take_98 : pr_Dec_take[98]? = some (172, 3, .sipush 256, [256, 0]) := rfl
theorem pa_Dec_take_99 : pr_Dec_take[99]? = some (175, 1, .irem, []) := rfl
theorem pa_Dec_take_100 : pr_Dec_take[100]? = some (176, 1, .iastore, []) := rfl
theorem pa_Dec_take_101 : pr_Dec_take[101]? = some (177, 1, .return_, []) := rfl
def pa_Dec_take := And.intro pa_Dec_take_0 (And.intro pa_Dec_take_1 (And.intro pa_Dec_take_2 (And.intro pa_Dec_take_3 (And.intro pa_Dec_take_4 (And.intro pa_Dec_take_5 (And.intro pa_Dec_take_6 (And.intro pa_Dec_take_7 (And.intro pa_Dec_take_8 (And.intro pa_Dec_take_9 (And.intro pa_Dec_take_10 (And.intro pa_Dec_take_11 (And.intro pa_Dec_take_12 (And.intro pa_Dec_take_13 (And.intro pa_Dec_take_14 (And.intro pa_Dec_take_15 (And.intro pa_Dec_take_16 (And.intro pa_Dec_take_17 (And.intro pa_Dec_take_18 (And.intro pa_Dec_take_19 (And.intro pa_Dec_take_20 (And.intro pa_Dec_take_21 (And.intro pa_Dec_take_22 (And.intro pa_Dec_take_23 (And.intro pa_Dec_take_24 (And.intro pa_Dec_take_25 (And.intro pa_Dec_take_26 (And.intro pa_Dec_take_27 (And.intro pa_Dec_take_28 (And.intro pa_Dec_take_29 (And.intro pa_Dec_take_30 (And.intro pa_Dec_take_31 (And.intro pa_Dec_take_32 (And.intro pa_Dec_take_33 (And.intro pa_Dec_take_34 (And.intro pa_Dec_take_35 (And.intro pa_Dec_take_36 (And.intro pa_Dec_take_37 (And.intro pa_Dec_take_38 (And.intro pa_Dec_take_39 (And.intro pa_Dec_take_40 (And.intro pa_Dec_take_41 (And.intro pa_Dec_take_42 (And.intro pa_Dec_take_43 (And.intro pa_Dec_take_44 (And.intro pa_Dec_take_45 (And.intro pa_Dec_take_46 (And.intro pa_Dec_take_47 (And.intro pa_Dec_take_48 (And.intro pa_Dec_take_49 (And.intro pa_Dec_take_50 (And.intro pa_Dec_take_51 (And.intro pa_Dec_take_52 (And.intro pa_Dec_take_53 (And.intro pa_Dec_take_54 (And.intro pa_Dec_take_55 (And.intro pa_Dec_take_56 (And.intro pa_Dec_take_57 (And.intro pa_Dec_take_58 (And.intro pa_Dec_take_59 (And.intro pa_Dec_take_60 (And.intro pa_Dec_take_61 (And.intro pa_Dec_take_62 (And.intro pa_Dec_take_63 (And.intro pa_Dec_take_64 (And.intro pa_Dec_take_65 (And.intro pa_Dec_take_66 (And.intro pa_Dec_take_67 (And.intro pa_Dec_take_68 (And.intro pa_Dec_take_69 (And.intro pa_Dec_take_70 (And.intro pa_Dec_take_71 (And.intro pa_Dec_take_72 (And.intro pa_Dec_take_73 (And.intro pa_Dec_take_74 (And.intro pa_Dec_take_75 (And.intro pa_Dec_take_76 (And.intro pa_Dec_take_77 (And.intro pa_Dec_take_78 (And.intro pa_Dec_take_79 (And.intro pa_Dec_take_80 (And.intro pa_Dec_take_81 (And.intro pa_Dec_take_82 (And.intro pa_Dec_take_83 (And.intro pa_Dec_take_84 (And.intro pa_Dec_take_85 (And.intro pa_Dec_take_86 (And.intro pa_Dec_take_87 (And.intro pa_Dec_take_88 (And.intro pa_Dec_take_89 (And.intro pa_Dec_take_90 (And.intro pa_Dec_take_91 (And.intro pa_Dec_take_92 (And.intro pa_Dec_take_93 (And.intro pa_Dec_take_94 (And.intro pa_Dec_take_95 (And.intro pa_Dec_take_96 (And.intro pa_Dec_take_97 (And.intro pa_Dec_take_98 (And.intro pa_Dec_take_99 (And.intro pa_Dec_take_100 (pa_Dec_take_101)))))))))))))))))))))))))))))))))))))))))))))))))))))))))))))))))))))))))))))))))))))))))))))))))))))
