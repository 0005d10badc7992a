/-! the methods as tables -/
def pr_Mod_init : List ma_E := [(0, 1, .aload_n 0, []),
  (1, 3, .invokespecial 1, [0, 610, 62, 63]),
  (4, 1, .aload_n 0, []),
  (5, 3, .sipush 160, [160, 0]),
  (8, 2, .newarray .int, [89]),
  (10, 3, .putfield 7, [7, 1, 2, 0, 621]),
  (13, 1, .aload_n 0, []),
  (14, 3, .sipush 2880, [2880, 0]),
  (17, 2, .newarray .byte, [687]),
  (19, 3, .putfield 13, [7, 3, 2, 0, 623]),
  (22, 1, .aload_n 0, []),
  (23, 3, .sipush 5400, [5400, 0]),
  (26, 2, .newarray .byte, [687]),
  (28, 3, .putfield 17, [7, 5, 2, 0, 625]),
  (31, 1, .aload_n 0, []),
  (32, 2, .bipush 90, [90, 0]),
  (34, 2, .newarray .int, [89]),
  (36, 3, .putfield 20, [7, 6, 2, 0, 626]),
  (39, 1, .aload_n 0, []),
  (40, 3, .sipush 160, [160, 0]),
  (43, 2, .newarray .int, [89]),
  (45, 3, .putfield 23, [7, 10, 2, 0, 630]),
  (48, 1, .aload_n 0, []),
  (49, 1, .iconst 4, [4, 0]),
  (50, 2, .newarray .int, [89]),
  (52, 3, .putfield 26, [7, 11, 2, 0, 631]),
  (55, 1, .aload_n 0, []),
  (56, 1, .iconst 4, [4, 0]),
  (57, 2, .newarray .int, [89]),
  (59, 3, .putfield 29, [7, 12, 2, 0, 632]),
  (62, 1, .aload_n 0, []),
  (63, 2, .bipush 33, [33, 0]),
  (65, 2, .newarray .int, [89]),
  (67, 3, .putfield 32, [7, 13, 2, 0, 633]),
  (70, 1, .aload_n 0, []),
  (71, 2, .bipush 60, [60, 0]),
  (73, 2, .newarray .int, [89]),
  (75, 3, .putfield 35, [7, 14, 2, 0, 634]),
  (78, 1, .aload_n 0, []),
  (79, 2, .bipush 64, [64, 0]),
  (81, 2, .newarray .int, [89]),
  (83, 3, .putfield 38, [7, 15, 2, 0, 635]),
  (86, 1, .aload_n 0, []),
  (87, 3, .sipush 256, [256, 0]),
  (90, 2, .newarray .int, [89]),
  (92, 3, .putfield 41, [7, 16, 2, 0, 636]),
  (95, 1, .aload_n 0, []),
  (96, 2, .bipush 16, [16, 0]),
  (98, 2, .newarray .int, [89]),
  (100, 3, .putfield 44, [7, 17, 2, 0, 637]),
  (103, 1, .aload_n 0, []),
  (104, 2, .bipush 42, [42, 0]),
  (106, 2, .newarray .int, [89]),
  (108, 3, .putfield 47, [7, 18, 2, 0, 638]),
  (111, 1, .aload_n 0, []),
  (112, 2, .bipush 6, [6, 0]),
  (114, 2, .newarray .int, [89]),
  (116, 3, .putfield 50, [7, 19, 2, 0, 639]),
  (119, 1, .aload_n 0, []),
  (120, 2, .bipush 96, [96, 0]),
  (122, 2, .newarray .int, [89]),
  (124, 3, .putfield 53, [7, 20, 2, 0, 640]),
  (127, 1, .aload_n 0, []),
  (128, 3, .sipush 256, [256, 0]),
  (131, 2, .newarray .int, [89]),
  (133, 3, .putfield 56, [7, 21, 2, 0, 641]),
  (136, 1, .iconst 0, [0, 0]),
  (137, 1, .istore_n 1, []),
  (138, 1, .iload_n 1, []),
  (139, 2, .bipush 96, [96, 0]),
  (141, 3, .if_icmp .ge (19), [79]),
  (144, 1, .aload_n 0, []),
  (145, 3, .getfield 53, [7, 20, 2, 0, 640]),
  (148, 1, .iload_n 1, []),
  (149, 1, .iload_n 1, []),
  (150, 3, .invokestatic 59, [71, 1, 0, 611, 612, 47]),
  (153, 1, .iastore, []),
  (154, 3, .iinc 1 (1), [1, 0]),
  (157, 3, .goto (-19), [68]),
  (160, 1, .iconst 1, [1, 0]),
  (161, 1, .istore_n 1, []),
  (162, 1, .iload_n 1, []),
  (163, 3, .sipush 256, [256, 0]),
  (166, 3, .if_icmp .ge (19), [92]),
  (169, 1, .aload_n 0, []),
  (170, 3, .getfield 56, [7, 21, 2, 0, 641]),
  (173, 1, .iload_n 1, []),
  (174, 1, .iload_n 1, []),
  (175, 3, .invokestatic 63, [65, 1, 0, 617, 618, 47]),
  (178, 1, .iastore, []),
  (179, 3, .iinc 1 (1), [1, 0]),
  (182, 3, .goto (-20), [81]),
  (185, 1, .return_, [])]
theorem po_Mod_init : ma_ok me_Mod_init pr_Mod_init := ma_ok_of (by decide +kernel)
theorem pa_Mod_init_0 : pr_Mod_init[0]? = some (0, 1, .aload_n 0, []) := rfl
theorem pa_Mod_init_1 : pr_Mod_init[1]? = some (1, 3, .invokespecial 1, [0, 610, 62, 63]) := rfl
theorem pa_Mod_init_2 : pr_Mod_init[2]? = some (4, 1, .aload_n 0, []) := rfl
theorem pa_Mod_init_3 : pr_Mod_init[3]? = some (5, 3, .sipush 160, [160, 0]) := rfl
theorem pa_Mod_init_4 : pr_Mod_init[4]? = some (8, 2, .newarray .int, [89]) := rfl
theorem pa_Mod_init_5 : pr_Mod_init[5]? = some (10, 3, .putfield 7, [7, 1, 2, 0, 621]) := rfl
theorem pa_Mod_init_6 : pr_Mod_init[6]? = some (13, 1, .aload_n 0, []) := rfl
theorem pa_Mod_init_7 : pr_Mod_init[7]? = some (14, 3, .sipush 2880, [2880, 0]) := rfl
theorem pa_Mod_init_8 : pr_Mod_init[8]? = some (17, 2, .newarray .byte, [687]) := rfl
theorem pa_Mod_init_9 : pr_Mod_init[9]? = some (19, 3, .putfield 13, [7, 3, 2, 0, 623]) := rfl
theorem pa_Mod_init_10 : pr_Mod_init[10]? = some (22, 1, .aload_n 0, []) := rfl
theorem pa_Mod_init_11 : pr_Mod_init[11]? = some (23, 3, .sipush 5400, [5400, 0]) := rfl
theorem pa_Mod_init_12 : pr_Mod_init[12]? = some (26, 2, .newarray .byte, [687]) := rfl
theorem pa_Mod_init_13 : pr_Mod_init[13]? = some (28, 3, .putfield 17, [7, 5, 2, 0, 625]) := rfl
theorem pa_Mod_init_14 : pr_Mod_init[14]? = some (31, 1, .aload_n 0, []) := rfl
theorem pa_Mod_init_15 : pr_Mod_init[15]? = some (32, 2, .bipush 90, [90, 0]) := rfl
theorem pa_Mod_init_16 : pr_Mod_init[16]? = some (34, 2, .newarray .int, [89]) := rfl
theorem pa_Mod_init_17 : pr_Mod_init[17]? = some (36, 3, .putfield 20, [7, 6, 2, 0, 626]) := rfl
theorem pa_Mod_init_18 : pr_Mod_init[18]? = some (39, 1, .aload_n 0, []) := rfl
theorem pa_Mod_init_19 : pr_Mod_init[19]? = some (40, 3, .sipush 160, [160, 0]) := rfl
theorem pa_Mod_init_20 : pr_Mod_init[20]? = some (43, 2, .newarray .int, [89]) := rfl
theorem pa_Mod_init_21 : pr_Mod_init[21]? = some (45, 3, .putfield 23, [7, 10, 2, 0, 630]) := rfl
theorem pa_Mod_init_22 : pr_Mod_init[22]? = some (48, 1, .aload_n 0, []) := rfl
theorem pa_Mod_init_23 : pr_Mod_init[23]? = some (49, 1, .iconst 4, [4, 0]) := rfl
theorem pa_Mod_init_24 : pr_Mod_init[24]? = some (50, 2, .newarray .int, [89]) := rfl
theorem pa_Mod_init_25 : pr_Mod_init[25]? = some (52, 3, .putfield 26, [7, 11, 2, 0, 631]) := rfl
theorem pa_Mod_init_26 : pr_Mod_init[26]? = some (55, 1, .aload_n 0, []) := rfl
theorem pa_Mod_init_27 : pr_Mod_init[27]? = some (56, 1, .iconst 4, [4, 0]) := rfl
theorem pa_Mod_init_28 : pr_Mod_init[28]? = some (57, 2, .newarray .int, [89]) := rfl
theorem pa_Mod_init_29 : pr_Mod_init[29]? = some (59, 3, .putfield 29, [7, 12, 2, 0, 632]) := rfl
theorem pa_Mod_init_30 : pr_Mod_init[30]? = some (62, 1, .aload_n 0, []) := rfl
theorem pa_Mod_init_31 : pr_Mod_init[31]? = some (63, 2, .bipush 33, [33, 0]) := rfl
theorem pa_Mod_init_32 : pr_Mod_init[32]? = some (65, 2, .newarray .int, [89]) := rfl
theorem pa_Mod_init_33 : pr_Mod_init[33]? = some (67, 3, .putfield 32, [7, 13, 2, 0, 633]) := rfl
theorem pa_Mod_init_34 : pr_Mod_init[34]? = some (70, 1, .aload_n 0, []) := rfl
theorem pa_Mod_init_35 : pr_Mod_init[35]? = some (71, 2, .bipush 60, [60, 0]) := rfl
theorem pa_Mod_init_36 : pr_Mod_init[36]? = some (73, 2, .newarray .int, [89]) := rfl
theorem pa_Mod_init_37 : pr_Mod_init[37]? = some (75, 3, .putfield 35, [7, 14, 2, 0, 634]) := rfl
theorem pa_Mod_init_38 : pr_Mod_init[38]? = some (78, 1, .aload_n 0, []) := rfl
theorem pa_Mod_init_39 : pr_Mod_init[39]? = some (79, 2, .bipush 64, [64, 0]) := rfl
theorem pa_Mod_init_40 : pr_Mod_init[40]? = some (81, 2, .newarray .int, [89]) := rfl
theorem pa_Mod_init_41 : pr_Mod_init[41]? = some (83, 3, .putfield 38, [7, 15, 2, 0, 635]) := rfl
theorem pa_Mod_init_42 : pr_Mod_init[42]? = some (86, 1, .aload_n 0, []) := rfl
theorem pa_Mod_init_43 : pr_Mod_init[43]? = some (87, 3, .sipush 256, [256, 0]) := rfl
theorem pa_Mod_init_44 : pr_Mod_init[44]? = some (90, 2, .newarray .int, [89]) := rfl
theorem pa_Mod_init_45 : pr_Mod_init[45]? = some (92, 3, .putfield 41, [7, 16, 2, 0, 636]) := rfl
theorem pa_Mod_init_46 : pr_Mod_init[46]? = some (95, 1, .aload_n 0, []) := rfl
theorem pa_Mod_init_47 : pr_Mod_init[47]? = some (96, 2, .bipush 16, [16, 0]) := rfl
theorem pa_Mod_init_48 : pr_Mod_init[48]? = some (98, 2, .newarray .int, [89]) := rfl
theorem pa_Mod_init_49 : pr_Mod_init[49]? = some (100, 3, .putfield 44, [7, 17, 2, 0, 637]) := rfl
theorem pa_Mod_init_50 : pr_Mod_init[50]? = some (103, 1, .aload_n 0, []) := rfl
theorem pa_Mod_init_51 : pr_Mod_init[51]? = some (104, 2, .bipush 42, [42, 0]) := rfl
theorem pa_Mod_init_52 : pr_Mod_init[52]? = some (106, 2, .newarray .int, [89]) := rfl
theorem pa_Mod_init_53 : pr_Mod_init[53]? = some (108, 3, .putfield 47, [7, 18, 2, 0, 638]) := rfl
theorem pa_Mod_init_54 : pr_Mod_init[54]? = some (111, 1, .aload_n 0, []) := rfl
theorem pa_Mod_init_55 : pr_Mod_init[55]? = some (112, 2, .bipush 6, [6, 0]) := rfl
theorem pa_Mod_init_56 : pr_Mod_init[56]? = some (114, 2, .newarray .int, [89]) := rfl
theorem pa_Mod_init_57 : pr_Mod_init[57]? = some (116, 3, .putfield 50, [7, 19, 2, 0, 639]) := rfl
theorem pa_Mod_init_58 : pr_Mod_init[58]? = some (119, 1, .aload_n 0, []) := rfl
theorem pa_Mod_init_59 : pr_Mod_init[59]? = some (120, 2, .bipush 96, [96, 0]) := rfl
theorem pa_Mod_init_60 : pr_Mod_init[60]? = some (122, 2, .newarray .int, [89]) := rfl
theorem pa_Mod_init_61 : pr_Mod_init[61]? = some (124, 3, .putfield 53, [7, 20, 2, 0, 640]) := rfl
theorem pa_Mod_init_62 : pr_Mod_init[62]? = some (127, 1, .aload_n 0, []) := rfl
theorem pa_Mod_init_63 : pr_Mod_init[63]? = some (128, 3, .sipush 256, [256, 0]) := rfl
theorem pa_Mod_init_64 : pr_Mod_init[64]? = some (131, 2, .newarray .int, [89]) := rfl
theorem pa_Mod_init_65 : pr_Mod_init[65]? = some (133, 3, .putfield 56, [7, 21, 2, 0, 641]) := rfl
theorem pa_Mod_init_66 : pr_Mod_init[66]? = some (136, 1, .iconst 0, [0, 0]) := rfl
theorem pa_Mod_init_67 : pr_Mod_init[67]? = some (137, 1, .istore_n 1, []) := rfl
theorem pa_Mod_init_68 : pr_Mod_init[68]? = some (138, 1, .iload_n 1, []) := rfl
theorem pa_Mod_init_69 : pr_Mod_init[69]? = some (139, 2, .bipush 96, [96, 0]) := rfl
theorem pa_Mod_init_70 : pr_Mod_init[70]? = some (141, 3, .if_icmp .ge (19), [79]) := rfl
theorem pa_Mod_init_71 : pr_Mod_init[71]? = some (144, 1, .aload_n 0, []) := rfl
theorem pa_Mod_init_72 : pr_Mod_init[72]? = some (145, 3, .getfield 53, [7, 20, 2, 0, 640]) := rfl
theorem pa_Mod_init_73 : pr_Mod_init[73]? = some (148, 1, .iload_n 1, []) := rfl
theorem pa_Mod_init_74 : pr_Mod_init[74]? = some (149, 1, .iload_n 1, []) := rfl
theorem pa_Mod_init_75 : pr_Mod_init[75]? = some (150, 3, .invokestatic 59, [71, 1, 0, 611, 612, 47]) := rfl
theorem pa_Mod_init_76 : pr_Mod_init[76]? = some (153, 1, .iastore, []) := rfl
theorem pa_Mod_init_77 : pr_Mod_init[77]? = some (154, 3, .iinc 1 (1), [1, 0]) := rfl
theorem pa_Mod_init_78 : pr_Mod_init[78]? = some (157, 3, .goto (-19), [68]) := rfl
theorem pa_Mod_init_79 : pr_Mod_init[79]? = some (160, 1, .iconst 1, [1, 0]) := rfl
theorem pa_Mod_init_80 : pr_Mod_init[80]? = some (161, 1, .istore_n 1, []) := rfl
theorem pa_Mod_init_81 : pr_Mod_init[81]? = some (162, 1, .iload_n 1, []) := rfl
theorem pa_Mod_init_82 : pr_Mod_init[82]? = some (163, 3, .sipush 256, [256, 0]) := rfl
theorem pa_Mod_init_83 : pr_Mod_init[83]? = some (166, 3, .if_icmp .ge (19), [92]) := rfl
theorem pa_Mod_init_84 : pr_Mod_init[84]? = some (169, 1, .aload_n 0, []) := rfl
theorem pa_Mod_init_85 : pr_Mod_init[85]? = some (170, 3, .getfield 56, [7, 21, 2, 0, 641]) := rfl
theorem pa_Mod_init_86 : pr_Mod_init[86]? = some (173, 1, .iload_n 1, []) := rfl
theorem pa_Mod_init_87 : pr_Mod_init[87]? = some (174, 1, .iload_n 1, []) := rfl
theorem pa_Mod_init_88 : pr_Mod_init[88]? = some (175, 3, .invokestatic 63, [65, 1, 0, 617, 618, 47]) := rfl
theorem pa_Mod_init_89 : pr_Mod_init[89]? = some (178, 1, .iastore, []) := rfl
theorem pa_Mod_init_90 : pr_Mod_init[90]? = some (179, 3, .iinc 1 (1), [1, 0]) := rfl
theorem pa_Mod_init_91 : pr_Mod_init[91]? = some (182, 3, .goto (-20), [81]) := rfl
theorem pa_Mod_init_92 : pr_Mod_init[92]? = some (185, 1, .return_, []) := rfl
def pa_Mod_init := And.intro pa_Mod_init_0 (And.intro pa_Mod_init_1 (And.intro pa_Mod_init_2 (And.intro pa_Mod_init_3 (And.intro pa_Mod_init_4 (And.intro pa_Mod_init_5 (And.intro pa_Mod_init_6 (And.intro pa_Mod_init_7 (And.intro pa_Mod_init_8 (And.intro pa_Mod_init_9 (And.intro pa_Mod_init_10 (And.intro pa_Mod_init_11 (And.intro pa_Mod_init_12 (And.intro pa_Mod_init_13 (And.intro pa_Mod_init_14 (And.intro pa_Mod_init_15 (And.intro pa_Mod_init_16 (And.intro pa_Mod_init_17 (And.intro pa_Mod_init_18 (And.intro pa_Mod_init_19 (And.intro pa_Mod_init_20 (And.intro pa_Mod_init_21 (And.intro pa_Mod_init_22 (And.intro pa_Mod_init_23 (And.intro pa_Mod_init_24 (And.intro pa_Mod_init_25 (And.intro pa_Mod_init_26 (And.intro pa_Mod_init_27 (And.intro pa_Mod_init_28 (And.intro pa_Mod_init_29 (And.intro pa_Mod_init_30 (And.intro pa_Mod_init_31 (And.intro pa_Mod_init_32 (And.intro pa_Mod_init_33 (And.intro pa_Mod_init_34 (And.intro pa_Mod_init_35 (And.intro pa_Mod_init_36 (And.intro pa_Mod_init_37 (And.intro pa_Mod_init_38 (And.intro pa_Mod_init_39 (And.intro pa_Mod_init_40 (And.intro pa_Mod_init_41 (And.intro pa_Mod_init_42 (And.intro pa_Mod_init_43 (And.intro pa_Mod_init_44 (And.intro pa_Mod_init_45 (And.intro pa_Mod_init_46 (And.intro pa_Mod_init_47 (And.intro pa_Mod_init_48 (And.intro pa_Mod_init_49 (And.intro pa_Mod_init_50 (And.intro pa_Mod_init_51 (And.intro pa_Mod_init_52 (And.intro pa_Mod_init_53 (And.intro pa_Mod_init_54 (And.intro pa_Mod_init_55 (And.intro pa_Mod_init_56 (And.intro pa_Mod_init_57 (And.intro pa_Mod_init_58 (And.intro pa_Mod_init_59 (And.intro pa_Mod_init_60 (And.intro pa_Mod_init_61 (And.intro pa_Mod_init_62 (And.intro pa_Mod_init_63 (And.intro pa_Mod_init_64 (And.intro pa_Mod_init_65 (And.intro pa_Mod_init_66 (And.intro pa_Mod_init_67 (And.intro pa_Mod_init_68 (And.intro pa_Mod_init_69 (And.intro pa_Mod_init_70 (And.intro pa_Mod_init_71 (And.intro pa_Mod_init_72 (And.intro pa_Mod_init_73 (And.intro pa_Mod_init_74 (And.intro pa_Mod_init_75 (And.intro pa_Mod_init_76 (And.intro pa_Mod_init_77 (And.intro pa_Mod_init_78 (And.intro pa_Mod_init_79 (And.intro pa_Mod_init_80 (And.intro pa_Mod_init_81 (And.intro pa_Mod_init_82 (And.intro pa_Mod_init_83 (And.intro pa_Mod_init_84 (And.intro pa_Mod_init_85 (And.intro pa_Mod_init_86 (And.intro pa_Mod_init_87 (And.intro pa_Mod_init_88 (And.intro pa_Mod_init_89 (And.intro pa_Mod_init_90 (And.intro pa_Mod_init_91 (pa_Mod_init_92))))))))))))))))))))))))))))))))))))))))))))))))))))))))))))))))))))))))))))))))))))))))))))
def pr_Mod_isColumn : List ma_E := [(0, 1, .iconst 0, [0, 0]),
  (1, 1, .istore_n 3, []),
  (2, 1, .iconst 2, [2, 0]),
  (3, 1, .iload_n 3, []),
  (4, 1, .imul, []),
  (5, 1, .iload_n 2, []),
  (6, 1, .iadd, []),
  (7, 2, .bipush 6, [6, 0]),
  (9, 3, .if_icmp .gt (165), [89]),
  (12, 1, .iconst 0, [0, 0]),
  (13, 2, .istore 4, []),
  (15, 2, .iload 4, []),
  (17, 2, .ldc 143, [65536, 0, 794]),
  (19, 3, .if_icmp .ge (149), [87]),
  (22, 2, .iload 4, []),
  (24, 3, .invokestatic 144, [31, 1, 0, 795, 796, 47]),
  (27, 1, .iload_n 3, []),
  (28, 3, .if_icmp .eq (6), [19]),
  (31, 3, .goto (131), [85]),
  (34, 1, .iconst 1, [1, 0]),
  (35, 2, .istore 5, []),
  (37, 1, .iconst 0, [0, 0]),
  (38, 2, .istore 6, []),
  (40, 1, .iconst 0, [0, 0]),
  (41, 2, .istore 7, []),
  (43, 2, .iload 7, []),
  (45, 2, .bipush 16, [16, 0]),
  (47, 3, .if_icmp .ge (99), [77]),
  (50, 2, .iload 5, []),
  (52, 3, .ifCond .eq (94), [77]),
  (55, 2, .iload 4, []),
  (57, 2, .iload 7, []),
  (59, 1, .ishr, []),
  (60, 1, .iconst 1, [1, 0]),
  (61, 1, .iand, []),
  (62, 1, .iconst 1, [1, 0]),
  (63, 3, .if_icmp .ne (7), [39]),
  (66, 1, .iconst 1, [1, 0]),
  (67, 3, .goto (4), [40]),
  (70, 1, .iconst 0, [0, 0]),
  (71, 2, .istore 8, []),
  (73, 1, .aload_n 0, []),
  (74, 3, .getfield 38, [7, 15, 2, 0, 635]),
  (77, 2, .bipush 16, [16, 0]),
  (79, 1, .iload_n 1, []),
  (80, 1, .imul, []),
  (81, 2, .iload 7, []),
  (83, 1, .iadd, []),
  (84, 1, .iaload, []),
  (85, 1, .iconst 1, [1, 0]),
  (86, 3, .if_icmp .eq (7), [53]),
  (89, 1, .iconst 1, [1, 0]),
  (90, 3, .goto (4), [54]),
  (93, 1, .iconst 0, [0, 0]),
  (94, 2, .istore 9, []),
  (96, 2, .iload 8, []),
  (98, 3, .ifCond .eq (8), [59]),
  (101, 2, .iload 9, []),
  (103, 3, .ifCond .ne (7), [61]),
  (106, 1, .iconst 1, [1, 0]),
  (107, 3, .goto (4), [62]),
  (110, 1, .iconst 0, [0, 0]),
  (111, 2, .istore 5, []),
  (113, 2, .iload 5, []),
  (115, 3, .ifCond .eq (25), [75]),
  (118, 2, .iload 8, []),
  (120, 3, .ifCond .ne (8), [69]),
  (123, 2, .iload 9, []),
  (125, 3, .ifCond .eq (15), [75]),
  (128, 1, .aload_n 0, []),
  (129, 3, .getfield 50, [7, 19, 2, 0, 639]),
  (132, 2, .iload 6, []),
  (134, 2, .iload 7, []),
  (136, 1, .iastore, []),
  (137, 3, .iinc 6 (1), [1, 0]),
  (140, 3, .iinc 7 (1), [1, 0]),
  (143, 3, .goto (-100), [25]),
  (146, 2, .iload 5, []),
  (148, 3, .ifCond .eq (14), [85]),
  (151, 1, .aload_n 0, []),
  (152, 2, .iload 6, []),
  (154, 3, .invokevirtual 86, [74, 1, 7, 0, 707, 709, 28, 47]),
  (157, 3, .ifCond .eq (5), [85]),
  (160, 1, .iconst 1, [1, 0]),
  (161, 1, .ireturn, [1]),
  (162, 3, .iinc 4 (1), [1, 0]),
  (165, 3, .goto (-150), [11]),
  (168, 3, .iinc 3 (1), [1, 0]),
  (171, 3, .goto (-169), [2]),
  (174, 1, .iconst 0, [0, 0]),
  (175, 1, .ireturn, [1])]
theorem po_Mod_isColumn : ma_ok me_Mod_isColumn pr_Mod_isColumn := ma_ok_of (by decide +kernel)
theorem pa_Mod_isColumn_0 : pr_Mod_isColumn[0]? = some (0, 1, .iconst 0, [0, 0]) := rfl
theorem pa_Mod_isColumn_1 : pr_Mod_isColumn[1]? = some (1, 1, .istore_n 3, []) := rfl
theorem pa_Mod_isColumn_2 : pr_Mod_isColumn[2]? = some (2, 1, .iconst 2, [2, 0]) := rfl
theorem pa_Mod_isColumn_3 : pr_Mod_isColumn[3]? = some (3, 1, .iload_n 3, []) := rfl
theorem pa_Mod_isColumn_4 : pr_Mod_isColumn[4]? = some (4, 1, .imul, []) := rfl
theorem pa_Mod_isColumn_5 : pr_Mod_isColumn[5]? = some (5, 1, .iload_n 2, []) := rfl
theorem pa_Mod_isColumn_6 : pr_Mod_isColumn[6]? = some (6, 1, .iadd, []) := rfl
theorem pa_Mod_isColumn_7 : pr_Mod_isColumn[7]? = some (7, 2, .bipush 6, [6, 0]) := rfl
theorem pa_Mod_isColumn_8 : pr_Mod_isColumn[8]? = some (9, 3, .if_icmp .gt (165), [89]) := rfl
theorem pa_Mod_isColumn_9 : pr_Mod_isColumn[9]? = some (12, 1, .iconst 0, [0, 0]) := rfl
theorem pa_Mod_isColumn_10 : pr_Mod_isColumn[10]? = some (13, 2, .istore 4, []) := rfl
theorem pa_Mod_isColumn_11 : pr_Mod_isColumn[11]? = some (15, 2, .iload 4, []) := rfl
theorem pa_Mod_isColumn_12 : pr_Mod_isColumn[12]? = some (17, 2, .ldc 143, [65536, 0, 794]) := rfl
theorem pa_Mod_isColumn_13 : pr_Mod_isColumn[13]? = some (19, 3, .if_icmp .ge (149), [87]) := rfl
theorem pa_Mod_isColumn_14 : pr_Mod_isColumn[14]? = some (22, 2, .iload 4, []) := rfl
theorem pa_Mod_isColumn_15 : pr_Mod_isColumn[15]? = some (24, 3, .invokestatic 144, [31, 1, 0, 795, 796, 47]) := rfl
theorem pa_Mod_isColumn_16 : pr_Mod_isColumn[16]? = some (27, 1, .iload_n 3, []) := rfl
theorem pa_Mod_isColumn_17 : pr_Mod_isColumn[17]? = some (28, 3, .if_icmp .eq (6), [19]) := rfl
theorem pa_Mod_isColumn_18 : pr_Mod_isColumn[18]? = some (31, 3, .goto (131), [85]) := rfl
theorem pa_Mod_isColumn_19 : pr_Mod_isColumn[19]? = some (34, 1, .iconst 1, [1, 0]) := rfl
theorem pa_Mod_isColumn_20 : pr_Mod_isColumn[20]? = some (35, 2, .istore 5, []) := rfl
theorem pa_Mod_isColumn_21 : pr_Mod_isColumn[21]? = some (37, 1, .iconst 0, [0, 0]) := rfl
theorem pa_Mod_isColumn_22 : pr_Mod_isColumn[22]? = some (38, 2, .istore 6, []) := rfl
theorem pa_Mod_isColumn_23 : pr_Mod_isColumn[23]? = some (40, 1, .iconst 0, [0, 0]) := rfl
theorem pa_Mod_isColumn_24 : pr_Mod_isColumn[24]? = some (41, 2, .istore 7, []) := rfl
theorem pa_Mod_isColumn_25 : pr_Mod_isColumn[25]? = some (43, 2, .iload 7, []) := rfl
theorem pa_Mod_isColumn_26 : pr_Mod_isColumn[26]? = some (45, 2, .bipush 16, [16, 0]) := rfl
theorem pa_Mod_isColumn_27 : pr_Mod_isColumn[27]? = some (47, 3, .if_icmp .ge (99), [77]) := rfl
theorem pa_Mod_isColumn_28 : pr_Mod_isColumn[28]? = some (50, 2, .iload 5, []) := rfl
theorem pa_Mod_isColumn_29 : pr_Mod_isColumn[29]? = some (52, 3, .ifCond .eq (94), [77]) := rfl
theorem pa_Mod_isColumn_30 : pr_Mod_isColumn[30]? = some (55, 2, .iload 4, []) := rfl
theorem pa_Mod_isColumn_31 : pr_Mod_isColumn[31]? = some (57, 2, .iload 7, []) := rfl
theorem pa_Mod_isColumn_32 : pr_Mod_isColumn[32]? = some (59, 1, .ishr, []) := rfl
theorem pa_Mod_isColumn_33 : pr_Mod_isColumn[33]? = some (60, 1, .iconst 1, [1, 0]) := rfl
theorem pa_Mod_isColumn_34 : pr_Mod_isColumn[34]? = some (61, 1, .iand, []) := rfl
theorem pa_Mod_isColumn_35 : pr_Mod_isColumn[35]? = some (62, 1, .iconst 1, [1, 0]) := rfl
theorem pa_Mod_isColumn_36 : pr_Mod_isColumn[36]? = some (63, 3, .if_icmp .ne (7), [39]) := rfl
theorem pa_Mod_isColumn_37 : pr_Mod_isColumn[37]? = some (66, 1, .iconst 1, [1, 0]) := rfl
theorem pa_Mod_isColumn_38 : pr_Mod_isColumn[38]? = some (67, 3, .goto (4), [40]) := rfl
theorem pa_Mod_isColumn_39 : pr_Mod_isColumn[39]? = some (70, 1, .iconst 0, [0, 0]) := rfl
theorem pa_Mod_isColumn_40 : pr_Mod_isColumn[40]? = some (71, 2, .istore 8, []) := rfl
theorem pa_Mod_isColumn_41 : pr_Mod_isColumn[41]? = some (73, 1, .aload_n 0, []) := rfl
theorem pa_Mod_isColumn_42 : pr_Mod_isColumn[42]? = some (74, 3, .getfield 38, [7, 15, 2, 0, 635]) := rfl
theorem pa_Mod_isColumn_43 : pr_Mod_isColumn[43]? = some (77, 2, .bipush 16, [16, 0]) := rfl
theorem pa_Mod_isColumn_44 : pr_Mod_isColumn[44]? = some (79, 1, .iload_n 1, []) := rfl
theorem pa_Mod_isColumn_45 : pr_Mod_isColumn[45]? = some (80, 1, .imul, []) := rfl
theorem pa_Mod_isColumn_46 : pr_Mod_isColumn[46]? = some (81, 2, .iload 7, []) := rfl
theorem pa_Mod_isColumn_47 : pr_Mod_isColumn[47]? = some (83, 1, .iadd, []) := rfl
theorem pa_Mod_isColumn_48 : pr_Mod_isColumn[48]? = some (84, 1, .iaload, []) := rfl
theorem pa_Mod_isColumn_49 : pr_Mod_isColumn[49]? = some (85, 1, .iconst 1, [1, 0]) := rfl
theorem pa_Mod_isColumn_50 : pr_Mod_isColumn[50]? = some (86, 3, .if_icmp .eq (7), [53]) := rfl
theorem pa_Mod_isColumn_51 : pr_Mod_isColumn[51]? = some (89, 1, .iconst 1, [1, 0]) := rfl
theorem pa_Mod_isColumn_52 : pr_Mod_isColumn[52]? = some (90, 3, .goto (4), [54]) := rfl
theorem pa_Mod_isColumn_53 : pr_Mod_isColumn[53]? = some (93, 1, .iconst 0, [0, 0]) := rfl
theorem pa_Mod_isColumn_54 : pr_Mod_isColumn[54]? = some (94, 2, .istore 9, []) := rfl
theorem pa_Mod_isColumn_55 : pr_Mod_isColumn[55]? = some (96, 2, .iload 8, []) := rfl
theorem pa_Mod_isColumn_56 : pr_Mod_isColumn[56]? = some (98, 3, .ifCond .eq (8), [59]) := rfl
theorem pa_Mod_isColumn_57 : pr_Mod_isColumn[57]? = some (101, 2, .iload 9, []) := rfl
theorem pa_Mod_isColumn_58 : pr_Mod_isColumn[58]? = some (103, 3, .ifCond .ne (7), [61]) := rfl
theorem pa_Mod_isColumn_59 : pr_Mod_isColumn[59]? = some (106, 1, .iconst 1, [1, 0]) := rfl
theorem pa_Mod_isColumn_60 : pr_Mod_isColumn[60]? = some (107, 3, .goto (4), [62]) := rfl
theorem pa_Mod_isColumn_61 : pr_Mod_isColumn[61]? = some (110, 1, .iconst 0, [0, 0]) := rfl
theorem pa_Mod_isColumn_62 : pr_Mod_isColumn[62]? = some (111, 2, .istore 5, []) := rfl
theorem pa_Mod_isColumn_63 : pr_Mod_isColumn[63]? = some (113, 2, .iload 5, []) := rfl
theorem pa_Mod_isColumn_64 : pr_Mod_isColumn[64]? = some (115, 3, .ifCond .eq (25), [75]) := rfl
theorem pa_Mod_isColumn_65 : pr_Mod_isColumn[65]? = some (118, 2, .iload 8, []) := rfl
theorem pa_Mod_isColumn_66 : pr_Mod_isColumn[66]? = some (120, 3, .ifCond .ne (8), [69]) := rfl
theorem pa_Mod_isColumn_67 : pr_Mod_isColumn[67]? = some (123, 2, .iload 9, []) := rfl
theorem pa_Mod_isColumn_68 : pr_Mod_isColumn[68]? = some (125, 3, .ifCond .eq (15), [75]) := rfl
theorem pa_Mod_isColumn_69 : pr_Mod_isColumn[69]? = some (128, 1, .aload_n 0, []) := rfl
theorem pa_Mod_isColumn_70 : pr_Mod_isColumn[70]? = some (129, 3, .getfield 50, [7, 19, 2, 0, 639]) := rfl
theorem pa_Mod_isColumn_71 : pr_Mod_isColumn[71]? = some (132, 2, .iload 6, []) := rfl
theorem pa_Mod_isColumn_72 : pr_Mod_isColumn[72]? = some (134, 2, .iload 7, []) := rfl
theorem pa_Mod_isColumn_73 : pr_Mod_isColumn[73]? = some (136, 1, .iastore, []) := rfl
theorem pa_Mod_isColumn_74 : pr_Mod_isColumn[74]? = some (137, 3, .iinc 6 (1), [1, 0]) := rfl
theorem pa_Mod_isColumn_75 : pr_Mod_isColumn[75]? = some (140, 3, .iinc 7 (1), [1, 0]) := rfl
theorem pa_Mod_isColumn_76 : pr_Mod_isColumn[76]? = some (143, 3, .goto (-100), [25]) := rfl
theorem pa_Mod_isColumn_77 : pr_Mod_isColumn[77]? = some (146, 2, .iload 5, []) := rfl
theorem pa_Mod_isColumn_78 : pr_Mod_isColumn[78]? = some (148, 3, .ifCond .eq (14), [85]) := rfl
theorem pa_Mod_isColumn_79 : pr_Mod_isColumn[79]? = some (151, 1, .aload_n 0, []) := rfl
theorem pa_Mod_isColumn_80 : pr_Mod_isColumn[80]? = some (152, 2, .iload 6, []) := rfl
theorem pa_Mod_isColumn_81 : pr_Mod_isColumn[81]? = some (154, 3, .invokevirtual 86, [74, 1, 7, 0, 707, 709, 28, 47]) := rfl
theorem pa_Mod_isColumn_82 : pr_Mod_isColumn[82]? = some (157, 3, .ifCond .eq (5), [85]) := rfl
theorem pa_Mod_isColumn_83 : pr_Mod_isColumn[83]? = some (160, 1, .iconst 1, [1, 0]) := rfl
theorem pa_Mod_isColumn_84 : pr_Mod_isColumn[84]? = some (161, 1, .ireturn, [1]) := rfl
theorem pa_Mod_isColumn_85 : pr_Mod_isColumn[85]? = some (162, 3, .iinc 4 (1), [1, 0]) := rfl
theorem pa_Mod_isColumn_86 : pr_Mod_isColumn[86]? = some (165, 3, .goto (-150), [11]) := rfl
theorem pa_Mod_isColumn_87 : pr_Mod_isColumn[87]? = some (168, 3, .iinc 3 (1), [1, 0]) := rfl
theorem pa_Mod_isColumn_88 : pr_Mod_isColumn[88]? = some (171, 3, .goto (-169), [2]) := rfl
theorem pa_Mod_isColumn_89 : pr_Mod_isColumn[89]? = some (174, 1, .iconst 0, [0, 0]) := rfl
theorem pa_Mod_isColumn_90 : pr_Mod_isColumn[90]? = some (175, 1, .ireturn, [1]) := rfl
def pa_Mod_isColumn := And.intro pa_Mod_isColumn_0 (And.intro pa_Mod_isColumn_1 (And.intro pa_Mod_isColumn_2 (And.intro pa_Mod_isColumn_3 (And.intro pa_Mod_isColumn_4 (And.intro pa_Mod_isColumn_5 (And.intro pa_Mod_isColumn_6 (And.intro pa_Mod_isColumn_7 (And.intro pa_Mod_isColumn_8 (And.intro pa_Mod_isColumn_9 (And.intro pa_Mod_isColumn_10 (And.intro pa_Mod_isColumn_11 (And.intro pa_Mod_isColumn_12 (And.intro pa_Mod_isColumn_13 (And.intro pa_Mod_isColumn_14 (And.intro pa_Mod_isColumn_15 (And.intro pa_Mod_isColumn_16 (And.intro pa_Mod_isColumn_17 (And.intro pa_Mod_isColumn_18 (And.intro pa_Mod_isColumn_19 (And.intro pa_Mod_isColumn_20 (And.intro pa_Mod_isColumn_21 (And.intro pa_Mod_isColumn_22 (And.intro pa_Mod_isColumn_23 (And.intro pa_Mod_isColumn_24 (And.intro pa_Mod_isColumn_25 (And.intro pa_Mod_isColumn_26 (And.intro pa_Mod_isColumn_27 (And.intro pa_Mod_isColumn_28 (And.intro pa_Mod_isColumn_29 (And.intro pa_Mod_isColumn_30 (And.intro pa_Mod_isColumn_31 (And.intro pa_Mod_isColumn_32 (And.intro pa_Mod_isColumn_33 (And.intro pa_Mod_isColumn_34 (And.intro pa_Mod_isColumn_35 (And.intro pa_Mod_isColumn_36 (And.intro pa_Mod_isColumn_37 (And.intro pa_Mod_isColumn_38 (And.intro pa_Mod_isColumn_39 (And.intro pa_Mod_isColumn_40 (And.intro pa_Mod_isColumn_41 (And.intro pa_Mod_isColumn_42 (And.intro pa_Mod_isColumn_43 (And.intro pa_Mod_isColumn_44 (And.intro pa_Mod_isColumn_45 (And.intro pa_Mod_isColumn_46 (And.intro pa_Mod_isColumn_47 (And.intro pa_Mod_isColumn_48 (And.intro pa_Mod_isColumn_49 (And.intro pa_Mod_isColumn_50 (And.intro pa_Mod_isColumn_51 (And.intro pa_Mod_isColumn_52 (And.intro pa_Mod_isColumn_53 (And.intro pa_Mod_isColumn_54 (And.intro pa_Mod_isColumn_55 (And.intro pa_Mod_isColumn_56 (And.intro pa_Mod_isColumn_57 (And.intro pa_Mod_isColumn_58 (And.intro pa_Mod_isColumn_59 (And.intro pa_Mod_isColumn_60 (And.intro pa_Mod_isColumn_61 (And.intro pa_Mod_isColumn_62 (And.intro pa_Mod_isColumn_63 (And.intro pa_Mod_isColumn_64 (And.intro pa_Mod_isColumn_65 (And.intro pa_Mod_isColumn_66 (And.intro pa_Mod_isColumn_67 (And.intro pa_Mod_isColumn_68 (And.intro pa_Mod_isColumn_69 (And.intro pa_Mod_isColumn_70 (And.intro pa_Mod_isColumn_71 (And.intro pa_Mod_isColumn_72 (And.intro pa_Mod_isColumn_73 (And.intro pa_Mod_isColumn_74 (And.intro pa_Mod_isColumn_75 (And.intro pa_Mod_isColumn_76 (And.intro pa_Mod_isColumn_77 (And.intro pa_Mod_isColumn_78 (And.intro pa_Mod_isColumn_79 (And.intro pa_Mod_isColumn_80 (And.intro pa_Mod_isColumn_81 (And.intro pa_Mod_isColumn_82 (And.intro pa_Mod_isColumn_83 (And.intro pa_Mod_isColumn_84 (And.intro pa_Mod_isColumn_85 (And.intro pa_Mod_isColumn_86 (And.intro pa_Mod_isColumn_87 (And.intro pa_Mod_isColumn_88 (And.intro pa_Mod_isColumn_89 (pa_Mod_isColumn_90))))))))))))))))))))))))))))))))))))))))))))))))))))))))))))))))))))))))))))))))))))))))))
def pr_Mod_read : List ma_E := [(0, 1, .aload_n 0, []),
  (1, 1, .iconst 0, [0, 0]),
  (2, 3, .putfield 66, [7, 0, 0, 0, 620]),
  (5, 1, .aload_n 0, []),
  (6, 1, .iload_n 1, []),
  (7, 1, .iconst (-1), [1, 1]),
  (8, 1, .iconst (-1), [1, 1]),
  (9, 1, .iconst 0, [0, 0]),
  (10, 3, .invokevirtual 100, [63, 4, 7, 0, 736, 738, 32, 47]),
  (13, 1, .ireturn, [1])]
theorem po_Mod_read : ma_ok me_Mod_read pr_Mod_read := ma_ok_of (by decide +kernel)
theorem pa_Mod_read_0 : pr_Mod_read[0]? = some (0, 1, .aload_n 0, []) := rfl
theorem pa_Mod_read_1 : pr_Mod_read[1]? = some (1, 1, .iconst 0, [0, 0]) := rfl
theorem pa_Mod_read_2 : pr_Mod_read[2]? = some (2, 3, .putfield 66, [7, 0, 0, 0, 620]) := rfl
theorem pa_Mod_read_3 : pr_Mod_read[3]? = some (5, 1, .aload_n 0, []) := rfl
theorem pa_Mod_read_4 : pr_Mod_read[4]? = some (6, 1, .iload_n 1, []) := rfl
theorem pa_Mod_read_5 : pr_Mod_read[5]? = some (7, 1, .iconst (-1), [1, 1]) := rfl
theorem pa_Mod_read_6 : pr_Mod_read[6]? = some (8, 1, .iconst (-1), [1, 1]) := rfl
theorem pa_Mod_read_7 : pr_Mod_read[7]? = some (9, 1, .iconst 0, [0, 0]) := rfl
theorem pa_Mod_read_8 : pr_Mod_read[8]? = some (10, 3, .invokevirtual 100, [63, 4, 7, 0, 736, 738, 32, 47]) := rfl
theorem pa_Mod_read_9 : pr_Mod_read[9]? = some (13, 1, .ireturn, [1]) := rfl
def pa_Mod_read := And.intro pa_Mod_read_0 (And.intro pa_Mod_read_1 (And.intro pa_Mod_read_2 (And.intro pa_Mod_read_3 (And.intro pa_Mod_read_4 (And.intro pa_Mod_read_5 (And.intro pa_Mod_read_6 (And.intro pa_Mod_read_7 (And.intro pa_Mod_read_8 (pa_Mod_read_9)))))))))
def pr_Mod_readCut : List ma_E := [(0, 1, .aload_n 0, []),
  (1, 1, .iconst 0, [0, 0]),
  (2, 3, .putfield 66, [7, 0, 0, 0, 620]),
  (5, 1, .iload_n 2, []),
  (6, 1, .iconst 0, [0, 0]),
  (7, 2, .bipush 32, [32, 0]),
  (9, 3, .invokestatic 74, [29, 3, 0, 700, 701, 47]),
  (12, 3, .ifCond .eq (18), [17]),
  (15, 1, .aload_n 0, []),
  (16, 1, .iload_n 1, []),
  (17, 1, .iload_n 2, []),
  (18, 1, .iconst (-1), [1, 1]),
  (19, 1, .iconst 0, [0, 0]),
  (20, 3, .invokevirtual 100, [63, 4, 7, 0, 736, 738, 32, 47]),
  (23, 3, .ifCond .eq (7), [17]),
  (26, 1, .iconst 1, [1, 0]),
  (27, 3, .goto (4), [18]),
  (30, 1, .iconst 0, [0, 0]),
  (31, 1, .ireturn, [1])]
theorem po_Mod_readCut : ma_ok me_Mod_readCut pr_Mod_readCut := ma_ok_of (by decide +kernel)
theorem pa_Mod_readCut_0 : pr_Mod_readCut[0]? = some (0, 1, .aload_n 0, []) := rfl
theorem pa_Mod_readCut_1 : pr_Mod_readCut[1]? = some (1, 1, .iconst 0, [0, 0]) := rfl
theorem pa_Mod_readCut_2 : pr_Mod_readCut[2]? = some (2, 3, .putfield 66, [7, 0, 0, 0, 620]) := rfl
theorem pa_Mod_readCut_3 : pr_Mod_readCut[3]? = some (5, 1, .iload_n 2, []) := rfl
theorem pa_Mod_readCut_4 : pr_Mod_readCut[4]? = some (6, 1, .iconst 0, [0, 0]) := rfl
theorem pa_Mod_readCut_5 : pr_Mod_readCut[5]? = some (7, 2, .bipush 32, [32, 0]) := rfl
theorem pa_Mod_readCut_6 : pr_Mod_readCut[6]? = some (9, 3, .invokestatic 74, [29, 3, 0, 700, 701, 47]) := rfl
theorem pa_Mod_readCut_7 : pr_Mod_readCut[7]? = some (12, 3, .ifCond .eq (18), [17]) := rfl
theorem pa_Mod_readCut_8 : pr_Mod_readCut[8]? = some (15, 1, .aload_n 0, []) := rfl
theorem pa_Mod_readCut_9 : pr_Mod_readCut[9]? = some (16, 1, .iload_n 1, []) := rfl
theorem pa_Mod_readCut_10 : pr_Mod_readCut[10]? = some (17, 1, .iload_n 2, []) := rfl
theorem pa_Mod_readCut_11 : pr_Mod_readCut[11]? = some (18, 1, .iconst (-1), [1, 1]) := rfl
theorem pa_Mod_readCut_12 : pr_Mod_readCut[12]? = some (19, 1, .iconst 0, [0, 0]) := rfl
theorem pa_Mod_readCut_13 : pr_Mod_readCut[13]? = some (20, 3, .invokevirtual 100, [63, 4, 7, 0, 736, 738, 32, 47]) := rfl
theorem pa_Mod_readCut_14 : pr_Mod_readCut[14]? = some (23, 3, .ifCond .eq (7), [17]) := rfl
theorem pa_Mod_readCut_15 : pr_Mod_readCut[15]? = some (26, 1, .iconst 1, [1, 0]) := rfl
theorem pa_Mod_readCut_16 : pr_Mod_readCut[16]? = some (27, 3, .goto (4), [18]) := rfl
theorem pa_Mod_readCut_17 : pr_Mod_readCut[17]? = some (30, 1, .iconst 0, [0, 0]) := rfl
theorem pa_Mod_readCut_18 : pr_Mod_readCut[18]? = some (31, 1, .ireturn, [1]) := rfl
def pa_Mod_readCut := And.intro pa_Mod_readCut_0 (And.intro pa_Mod_readCut_1 (And.intro pa_Mod_readCut_2 (And.intro pa_Mod_readCut_3 (And.intro pa_Mod_readCut_4 (And.intro pa_Mod_readCut_5 (And.intro pa_Mod_readCut_6 (And.intro pa_Mod_readCut_7 (And.intro pa_Mod_readCut_8 (And.intro pa_Mod_readCut_9 (And.intro pa_Mod_readCut_10 (And.intro pa_Mod_readCut_11 (And.intro pa_Mod_readCut_12 (And.intro pa_Mod_readCut_13 (And.intro pa_Mod_readCut_14 (And.intro pa_Mod_readCut_15 (And.intro pa_Mod_readCut_16 (And.intro pa_Mod_readCut_17 (pa_Mod_readCut_18))))))))))))))))))
def pr_Mod_readGrown : List ma_E := [(0, 1, .aload_n 0, []),
  (1, 1, .iconst 0, [0, 0]),
  (2, 3, .putfield 66, [7, 0, 0, 0, 620]),
  (5, 1, .iload_n 2, []),
  (6, 1, .iconst 0, [0, 0]),
  (7, 2, .bipush 33, [33, 0]),
  (9, 3, .invokestatic 74, [29, 3, 0, 700, 701, 47]),
  (12, 3, .ifCond .eq (27), [22]),
  (15, 1, .iload_n 3, []),
  (16, 1, .iconst 0, [0, 0]),
  (17, 1, .iconst 3, [3, 0]),
  (18, 3, .invokestatic 74, [29, 3, 0, 700, 701, 47]),
  (21, 3, .ifCond .eq (18), [22]),
  (24, 1, .aload_n 0, []),
  (25, 1, .iload_n 1, []),
  (26, 1, .iconst (-1), [1, 1]),
  (27, 1, .iload_n 2, []),
  (28, 1, .iload_n 3, []),
  (29, 3, .invokevirtual 100, [63, 4, 7, 0, 736, 738, 32, 47]),
  (32, 3, .ifCond .eq (7), [22]),
  (35, 1, .iconst 1, [1, 0]),
  (36, 3, .goto (4), [23]),
  (39, 1, .iconst 0, [0, 0]),
  (40, 1, .ireturn, [1])]
theorem po_Mod_readGrown : ma_ok me_Mod_readGrown pr_Mod_readGrown := ma_ok_of (by decide +kernel)
theorem pa_Mod_readGrown_0 : pr_Mod_readGrown[0]? = some (0, 1, .aload_n 0, []) := rfl
theorem pa_Mod_readGrown_1 : pr_Mod_readGrown[1]? = some (1, 1, .iconst 0, [0, 0]) := rfl
theorem pa_Mod_readGrown_2 : pr_Mod_readGrown[2]? = some (2, 3, .putfield 66, [7, 0, 0, 0, 620]) := rfl
theorem pa_Mod_readGrown_3 : pr_Mod_readGrown[3]? = some (5, 1, .iload_n 2, []) := rfl
theorem pa_Mod_readGrown_4 : pr_Mod_readGrown[4]? = some (6, 1, .iconst 0, [0, 0]) := rfl
theorem pa_Mod_readGrown_5 : pr_Mod_readGrown[5]? = some (7, 2, .bipush 33, [33, 0]) := rfl
theorem pa_Mod_readGrown_6 : pr_Mod_readGrown[6]? = some (9, 3, .invokestatic 74, [29, 3, 0, 700, 701, 47]) := rfl
theorem pa_Mod_readGrown_7 : pr_Mod_readGrown[7]? = some (12, 3, .ifCond .eq (27), [22]) := rfl
theorem pa_Mod_readGrown_8 : pr_Mod_readGrown[8]? = some (15, 1, .iload_n 3, []) := rfl
theorem pa_Mod_readGrown_9 : pr_Mod_readGrown[9]? = some (16, 1, .iconst 0, [0, 0]) := rfl
theorem pa_Mod_readGrown_10 : pr_Mod_readGrown[10]? = some (17, 1, .iconst 3, [3, 0]) := rfl
theorem pa_Mod_readGrown_11 : pr_Mod_readGrown[11]? = some (18, 3, .invokestatic 74, [29, 3, 0, 700, 701, 47]) := rfl
theorem pa_Mod_readGrown_12 : pr_Mod_readGrown[12]? = some (21, 3, .ifCond .eq (18), [22]) := rfl
theorem pa_Mod_readGrown_13 : pr_Mod_readGrown[13]? = some (24, 1, .aload_n 0, []) := rfl
theorem pa_Mod_readGrown_14 : pr_Mod_readGrown[14]? = some (25, 1, .iload_n 1, []) := rfl
theorem pa_Mod_readGrown_15 : pr_Mod_readGrown[15]? = some (26, 1, .iconst (-1), [1, 1]) := rfl
theorem pa_Mod_readGrown_16 : pr_Mod_readGrown[16]? = some (27, 1, .iload_n 2, []) := rfl
theorem pa_Mod_readGrown_17 : pr_Mod_readGrown[17]? = some (28, 1, .iload_n 3, []) := rfl
theorem pa_Mod_readGrown_18 : pr_Mod_readGrown[18]? = some (29, 3, .invokevirtual 100, [63, 4, 7, 0, 736, 738, 32, 47]) := rfl
theorem pa_Mod_readGrown_19 : pr_Mod_readGrown[19]? = some (32, 3, .ifCond .eq (7), [22]) := rfl
theorem pa_Mod_readGrown_20 : pr_Mod_readGrown[20]? = some (35, 1, .iconst 1, [1, 0]) := rfl
theorem pa_Mod_readGrown_21 : pr_Mod_readGrown[21]? = some (36, 3, .goto (4), [23]) := rfl
theorem pa_Mod_readGrown_22 : pr_Mod_readGrown[22]? = some (39, 1, .iconst 0, [0, 0]) := rfl
theorem pa_Mod_readGrown_23 : pr_Mod_readGrown[23]? = some (40, 1, .ireturn, [1]) := rfl
def pa_Mod_readGrown := And.intro pa_Mod_readGrown_0 (And.intro pa_Mod_readGrown_1 (And.intro pa_Mod_readGrown_2 (And.intro pa_Mod_readGrown_3 (And.intro pa_Mod_readGrown_4 (And.intro pa_Mod_readGrown_5 (And.intro pa_Mod_readGrown_6 (And.intro pa_Mod_readGrown_7 (And.intro pa_Mod_readGrown_8 (And.intro pa_Mod_readGrown_9 (And.intro pa_Mod_readGrown_10 (And.intro pa_Mod_readGrown_11 (And.intro pa_Mod_readGrown_12 (And.intro pa_Mod_readGrown_13 (And.intro pa_Mod_readGrown_14 (And.intro pa_Mod_readGrown_15 (And.intro pa_Mod_readGrown_16 (And.intro pa_Mod_readGrown_17 (And.intro pa_Mod_readGrown_18 (And.intro pa_Mod_readGrown_19 (And.intro pa_Mod_readGrown_20 (And.intro pa_Mod_readGrown_21 (And.intro pa_Mod_readGrown_22 (pa_Mod_readGrown_23)))))))))))))))))))))))
def pr_Mod_write : List ma_E := [(0, 1, .aload_n 0, []),
  (1, 1, .iconst 0, [0, 0]),
  (2, 3, .putfield 66, [7, 0, 0, 0, 620]),
  (5, 1, .iload_n 1, []),
  (6, 1, .iconst 1, [1, 0]),
  (7, 3, .sipush 160, [160, 0]),
  (10, 3, .invokestatic 74, [29, 3, 0, 700, 701, 47]),
  (13, 3, .ifCond .ne (5), [10]),
  (16, 1, .iconst 0, [0, 0]),
  (17, 1, .ireturn, [0]),
  (18, 1, .iload_n 1, []),
  (19, 2, .bipush 39, [39, 0]),
  (21, 1, .iadd, []),
  (22, 2, .bipush 40, [40, 0]),
  (24, 1, .idiv, []),
  (25, 1, .istore_n 2, []),
  (26, 1, .iconst 0, [0, 0]),
  (27, 1, .istore_n 3, []),
  (28, 1, .iload_n 3, []),
  (29, 1, .iload_n 2, []),
  (30, 3, .if_icmp .ge (185), [116]),
  (33, 1, .iconst 0, [0, 0]),
  (34, 2, .istore 4, []),
  (36, 2, .iload 4, []),
  (38, 1, .iconst 4, [4, 0]),
  (39, 3, .if_icmp .ge (140), [98]),
  (42, 1, .iconst 0, [0, 0]),
  (43, 2, .istore 5, []),
  (45, 2, .iload 5, []),
  (47, 2, .bipush 16, [16, 0]),
  (49, 3, .if_icmp .ge (54), [59]),
  (52, 2, .bipush 40, [40, 0]),
  (54, 1, .iload_n 3, []),
  (55, 1, .imul, []),
  (56, 1, .iconst 4, [4, 0]),
  (57, 2, .iload 5, []),
  (59, 1, .imul, []),
  (60, 1, .iadd, []),
  (61, 2, .iload 4, []),
  (63, 1, .iadd, []),
  (64, 2, .istore 6, []),
  (66, 1, .aload_n 0, []),
  (67, 3, .getfield 44, [7, 17, 2, 0, 637]),
  (70, 2, .iload 5, []),
  (72, 2, .iload 5, []),
  (74, 2, .bipush 10, [10, 0]),
  (76, 3, .if_icmp .ge (19), [55]),
  (79, 2, .iload 6, []),
  (81, 1, .iload_n 1, []),
  (82, 3, .if_icmp .ge (13), [55]),
  (85, 1, .aload_n 0, []),
  (86, 3, .getfield 7, [7, 1, 2, 0, 621]),
  (89, 2, .iload 6, []),
  (91, 1, .iaload, []),
  (92, 3, .goto (4), [56]),
  (95, 1, .iconst 0, [0, 0]),
  (96, 1, .iastore, []),
  (97, 3, .iinc 5 (1), [1, 0]),
  (100, 3, .goto (-55), [28]),
  (103, 1, .iconst 0, [0, 0]),
  (104, 2, .istore 5, []),
  (106, 2, .iload 5, []),
  (108, 2, .bipush 6, [6, 0]),
  (110, 3, .if_icmp .ge (21), [73]),
  (113, 1, .aload_n 0, []),
  (114, 3, .getfield 50, [7, 19, 2, 0, 639]),
  (117, 2, .iload 5, []),
  (119, 2, .bipush 10, [10, 0]),
  (121, 2, .iload 5, []),
  (123, 1, .iadd, []),
  (124, 1, .iastore, []),
  (125, 3, .iinc 5 (1), [1, 0]),
  (128, 3, .goto (-22), [61]),
  (131, 1, .aload_n 0, []),
  (132, 2, .bipush 6, [6, 0]),
  (134, 3, .invokevirtual 86, [74, 1, 7, 0, 707, 709, 28, 47]),
  (137, 1, .pop, []),
  (138, 1, .iconst 0, [0, 0]),
  (139, 2, .istore 5, []),
  (141, 2, .iload 5, []),
  (143, 2, .bipush 16, [16, 0]),
  (145, 3, .if_icmp .ge (28), [96]),
  (148, 1, .aload_n 0, []),
  (149, 3, .getfield 41, [7, 16, 2, 0, 636]),
  (152, 1, .iconst 4, [4, 0]),
  (153, 2, .iload 5, []),
  (155, 1, .imul, []),
  (156, 2, .iload 4, []),
  (158, 1, .iadd, []),
  (159, 1, .aload_n 0, []),
  (160, 3, .getfield 44, [7, 17, 2, 0, 637]),
  (163, 2, .iload 5, []),
  (165, 1, .iaload, []),
  (166, 1, .iastore, []),
  (167, 3, .iinc 5 (1), [1, 0]),
  (170, 3, .goto (-29), [79]),
  (173, 3, .iinc 4 (1), [1, 0]),
  (176, 3, .goto (-140), [23]),
  (179, 1, .iconst 0, [0, 0]),
  (180, 2, .istore 4, []),
  (182, 2, .iload 4, []),
  (184, 2, .bipush 16, [16, 0]),
  (186, 3, .if_icmp .ge (23), [114]),
  (189, 1, .aload_n 0, []),
  (190, 2, .bipush 16, [16, 0]),
  (192, 1, .iload_n 3, []),
  (193, 1, .imul, []),
  (194, 2, .iload 4, []),
  (196, 1, .iadd, []),
  (197, 1, .iload_n 3, []),
  (198, 2, .iload 4, []),
  (200, 3, .invokevirtual 90, [67, 3, 7, 0, 711, 713, 29, 47]),
  (203, 3, .iinc 4 (1), [1, 0]),
  (206, 3, .goto (-24), [100]),
  (209, 3, .iinc 3 (1), [1, 0]),
  (212, 3, .goto (-184), [18]),
  (215, 1, .aload_n 0, []),
  (216, 2, .bipush 16, [16, 0]),
  (218, 1, .iload_n 2, []),
  (219, 1, .imul, []),
  (220, 3, .putfield 94, [7, 2, 0, 0, 622]),
  (223, 1, .aload_n 0, []),
  (224, 1, .iconst 0, [0, 0]),
  (225, 3, .putfield 97, [7, 4, 0, 0, 624]),
  (228, 1, .aload_n 0, []),
  (229, 3, .getfield 94, [7, 2, 0, 0, 622]),
  (232, 1, .ireturn, [0])]
theorem po_Mod_write : ma_ok me_Mod_write pr_Mod_write := ma_ok_of (by decide +kernel)
theorem pa_Mod_write_0 : pr_Mod_write[0]? = some (0, 1, .aload_n 0, []) := rfl
theorem pa_Mod_write_1 : pr_Mod_write[1]? = some (1, 1, .iconst 0, [0, 0]) := rfl
theorem pa_Mod_write_2 : pr_Mod_write[2]? = some (2, 3, .putfield 66, [7, 0, 0, 0, 620]) := rfl
theorem pa_Mod_write_3 : pr_Mod_write[3]? = some (5, 1, .iload_n 1, []) := rfl
theorem pa_Mod_write_4 : pr_Mod_write[4]? = some (6, 1, .iconst 1, [1, 0]) := rfl
theorem pa_Mod_write_5 : pr_Mod_write[5]? = some (7, 3, .sipush 160, [160, 0]) := rfl
theorem pa_Mod_write_6 : pr_Mod_write[6]? = some (10, 3, .invokestatic 74, [29, 3, 0, 700, 701, 47]) := rfl
theorem pa_Mod_write_7 : pr_Mod_write[7]? = some (13, 3, .ifCond .ne (5), [10]) := rfl
theorem pa_Mod_write_8 : pr_Mod_write[8]? = some (16, 1, .iconst 0, [0, 0]) := rfl
theorem pa_Mod_write_9 : pr_Mod_write[9]? = some (17, 1, .ireturn, [0]) := rfl
theorem pa_Mod_write_10 : pr_Mod_write[10]? = some (18, 1, .iload_n 1, []) := rfl
theorem pa_Mod_write_11 : pr_Mod_write[11]? = some (19, 2, .bipush 39, [39, 0]) := rfl
theorem pa_Mod_write_12 : pr_Mod_write[12]? = some (21, 1, .iadd, []) := rfl
theorem pa_Mod_write_13 : pr_Mod_write[13]? = some (22, 2, .bipush 40, [40, 0]) := rfl
theorem pa_Mod_write_14 : pr_Mod_write[14]? = some (24, 1, .idiv, []) := rfl
theorem pa_Mod_write_15 : pr_Mod_write[15]? = some (25, 1, .istore_n 2, []) := rfl
theorem pa_Mod_write_16 : pr_Mod_write[16]? = some (26, 1, .iconst 0, [0, 0]) := rfl
theorem pa_Mod_write_17 : pr_Mod_write[17]? = some (27, 1, .istore_n 3, []) := rfl
theorem pa_Mod_write_18 : pr_Mod_write[18]? = some (28, 1, .iload_n 3, []) := rfl
theorem pa_Mod_write_19 : pr_Mod_write[19]? = some (29, 1, .iload_n 2, []) := rfl
theorem pa_Mod_write_20 : pr_Mod_write[20]? = some (30, 3, .if_icmp .ge (185), [116]) := rfl
theorem pa_Mod_write_21 : pr_Mod_write[21]? = some (33, 1, .iconst 0, [0, 0]) := rfl
theorem pa_Mod_write_22 : pr_Mod_write[22]? = some (34, 2, .istore 4, []) := rfl
theorem pa_Mod_write_23 : pr_Mod_write[23]? = some (36, 2, .iload 4, []) := rfl
theorem pa_Mod_write_24 : pr_Mod_write[24]? = some (38, 1, .iconst 4, [4, 0]) := rfl
theorem pa_Mod_write_25 : pr_Mod_write[25]? = some (39, 3, .if_icmp .ge (140), [98]) := rfl
theorem pa_Mod_write_26 : pr_Mod_write[26]? = some (42, 1, .iconst 0, [0, 0]) := rfl
theorem pa_Mod_write_27 : pr_Mod_write[27]? = some (43, 2, .istore 5, []) := rfl
theorem pa_Mod_write_28 : pr_Mod_write[28]? = some (45, 2, .iload 5, []) := rfl
theorem pa_Mod_write_29 : pr_Mod_write[29]? = some (47, 2, .bipush 16, [16, 0]) := rfl
theorem pa_Mod_write_30 : pr_Mod_write[30]? = some (49, 3, .if_icmp .ge (54), [59]) := rfl
theorem pa_Mod_write_31 : pr_Mod_write[31]? = some (52, 2, .bipush 40, [40, 0]) := rfl
theorem pa_Mod_write_32 : pr_Mod_write[32]? = some (54, 1, .iload_n 3, []) := rfl
theorem pa_Mod_write_33 : pr_Mod_write[33]? = some (55, 1, .imul, []) := rfl
theorem pa_Mod_write_34 : pr_Mod_write[34]? = some (56, 1, .iconst 4, [4, 0]) := rfl
theorem pa_Mod_write_35 : pr_Mod_write[35]? = some (57, 2, .iload 5, []) := rfl
theorem pa_Mod_write_36 : pr_Mod_write[36]? = some (59, 1, .imul, []) := rfl
theorem pa_Mod_write_37 : pr_Mod_write[37]? = some (60, 1, .iadd, []) := rfl
theorem pa_Mod_write_38 : pr_Mod_write[38]? = some (61, 2, .iload 4, []) := rfl
theorem pa_Mod_write_39 : pr_Mod_write[39]? = some (63, 1, .iadd, []) := rfl
theorem pa_Mod_write_40 : pr_Mod_write[40]? = some (64, 2, .istore 6, []) := rfl
theorem pa_Mod_write_41 : pr_Mod_write[41]? = some (66, 1, .aload_n 0, []) := rfl
theorem pa_Mod_write_42 : pr_Mod_write[42]? = some (67, 3, .getfield 44, [7, 17, 2, 0, 637]) := rfl
theorem pa_Mod_write_43 : pr_Mod_write[43]? = some (70, 2, .iload 5, []) := rfl
theorem pa_Mod_write_44 : pr_Mod_write[44]? = some (72, 2, .iload 5, []) := rfl
theorem pa_Mod_write_45 : pr_Mod_write[45]? = some (74, 2, .bipush 10, [10, 0]) := rfl
theorem pa_Mod_write_46 : pr_Mod_write[46]? = some (76, 3, .if_icmp .ge (19), [55]) := rfl
theorem pa_Mod_write_47 : pr_Mod_write[47]? = some (79, 2, .iload 6, []) := rfl
theorem pa_Mod_write_48 : pr_Mod_write[48]? = some (81, 1, .iload_n 1, []) := rfl
theorem pa_Mod_write_49 : pr_Mod_write[49]? = some (82, 3, .if_icmp .ge (13), [55]) := rfl
theorem pa_Mod_write_50 : pr_Mod_write[50]? = some (85, 1, .aload_n 0, []) := rfl
theorem pa_Mod_write_51 : pr_Mod_write[51]? = some (86, 3, .getfield 7, [7, 1, 2, 0, 621]) := rfl
theorem pa_Mod_write_52 : pr_Mod_write[52]? = some (89, 2, .iload 6, []) := rfl
theorem pa_Mod_write_53 : pr_Mod_write[53]? = some (91, 1, .iaload, []) := rfl
theorem pa_Mod_write_54 : pr_Mod_write[54]? = some (92, 3, .goto (4), [56]) := rfl
theorem pa_Mod_write_55 : pr_Mod_write[55]? = some (95, 1, .iconst 0, [0, 0]) := rfl
theorem pa_Mod_write_56 : pr_Mod_write[56]? = some (96, 1, .iastore, []) := rfl
theorem pa_Mod_write_57 : pr_Mod_write[57]? = some (97, 3, .iinc 5 (1), [1, 0]) := rfl
theorem pa_Mod_write_58 : pr_Mod_write[58]? = some (100, 3, .goto (-55), [28]) := rfl
theorem pa_Mod_write_59 : pr_Mod_write[59]? = some (103, 1, .iconst 0, [0, 0]) := rfl
theorem pa_Mod_write_60 : pr_Mod_write[60]? = some (104, 2, .istore 5, []) := rfl
theorem pa_Mod_write_61 : pr_Mod_write[61]? = some (106, 2, .iload 5, []) := rfl
theorem pa_Mod_write_62 : pr_Mod_write[62]? = some (108, 2, .bipush 6, [6, 0]) := rfl
theorem pa_Mod_write_63 : pr_Mod_write[63]? = some (110, 3, .if_icmp .ge (21), [73]) := rfl
theorem pa_Mod_write_64 : pr_Mod_write[64]? = some (113, 1, .aload_n 0, []) := rfl
theorem pa_Mod_write_65 : pr_Mod_write[65]? = some (114, 3, .getfield 50, [7, 19, 2, 0, 639]) := rfl
theorem pa_Mod_write_66 : pr_Mod_write[66]? = some (117, 2, .iload 5, []) := rfl
theorem pa_Mod_write_67 : pr_Mod_write[67]? = some (119, 2, .bipush 10, [10, 0]) := rfl
theorem pa_Mod_write_68 : pr_Mod_write[68]? = some (121, 2, .iload 5, []) := rfl
theorem pa_Mod_write_69 : pr_Mod_write[69]? = some (123, 1, .iadd, []) := rfl
theorem pa_Mod_write_70 : pr_Mod_write[70]? = some (124, 1, .iastore, []) := rfl
theorem pa_Mod_write_71 : pr_Mod_write[71]? = some (125, 3, .iinc 5 (1), [1, 0]) := rfl
theorem pa_Mod_write_72 : pr_Mod_write[72]? = some (128, 3, .goto (-22), [61]) := rfl
theorem pa_Mod_write_73 : pr_Mod_write[73]? = some (131, 1, .aload_n 0, []) := rfl
theorem pa_Mod_write_74 : pr_Mod_write[74]? = some (132, 2, .bipush 6, [6, 0]) := rfl
theorem pa_Mod_write_75 : pr_Mod_write[75]? = some (134, 3, .invokevirtual 86, [74, 1, 7, 0, 707, 709, 28, 47]) := rfl
theorem pa_Mod_write_76 : pr_Mod_write[76]? = some (137, 1, .pop, []) := rfl
theorem pa_Mod_write_77 : pr_Mod_write[77]? = some (138, 1, .iconst 0, [0, 0]) := rfl
theorem pa_Mod_write_78 : pr_Mod_write[78]? = some (139, 2, .istore 5, []) := rfl
theorem pa_Mod_write_79 : pr_Mod_write[79]? = some (141, 2, .iload 5, []) := rfl
theorem pa_Mod_write_80 : pr_Mod_write[80]? = some (143, 2, .bipush 16, [16, 0]) := rfl
theorem pa_Mod_write_81 : pr_Mod_write[81]? = some (145, 3, .if_icmp .ge (28), [96]) := rfl
theorem pa_Mod_write_82 : pr_Mod_write[82]? = some (148, 1, .aload_n 0, []) := rfl
theorem pa_Mod_write_83 : pr_Mod_write[83]? = some (149, 3, .getfield 41, [7, 16, 2, 0, 636]) := rfl
theorem pa_Mod_write_84 : pr_Mod_write[84]? = some (152, 1, .iconst 4, [4, 0]) := rfl
theorem pa_Mod_write_85 : pr_Mod_write[85]? = some (153, 2, .iload 5, []) := rfl
theorem pa_Mod_write_86 : pr_Mod_write[86]? = some (155, 1, .imul, []) := rfl
theorem pa_Mod_write_87 : pr_Mod_write[87]? = some (156, 2, .iload 4, []) := rfl
theorem pa_Mod_write_88 : pr_Mod_write[88]? = some (158, 1, .iadd, []) := rfl
theorem pa_Mod_write_89 : pr_Mod_write[89]? = some (159, 1, .aload_n 0, []) := rfl
theorem pa_Mod_write_90 : pr_Mod_write[90]? = some (160, 3, .getfield 44, [7, 17, 2, 0, 637]) := rfl
theorem pa_Mod_write_91 : pr_Mod_write[91]? = some (163, 2, .iload 5, []) := rfl
theorem pa_Mod_write_92 : pr_Mod_write[92]? = some (165, 1, .iaload, []) := rfl
theorem pa_Mod_write_93 : pr_Mod_write[93]? = some (166, 1, .iastore, []) := rfl
theorem pa_Mod_write_94 : pr_Mod_write[94]? = some (167, 3, .iinc 5 (1), [1, 0]) := rfl
theorem pa_Mod_write_95 : pr_Mod_write[95]? = some (170, 3, .goto (-29), [79]) := rfl
theorem pa_Mod_write_96 : pr_Mod_write[96]? = some (173, 3, .iinc 4 (1), [1, 0]) := rfl
theorem pa_Mod_write_97 : pr_Mod_write[97]? = some (176, 3, .goto (-140), [23]) := rfl
theorem pa_Mod_write_98 : pr_Mod_write[98]? = some (179, 1, .iconst 0, [0, 0]) := rfl
theorem pa_Mod_write_99 : pr_Mod_write[99]? = some (180, 2, .istore 4, []) := rfl
theorem pa_Mod_write_100 : pr_Mod_write[100]? = some (182, 2, .iload 4, []) := rfl
theorem pa_Mod_write_101 : pr_Mod_write[101]? = some (184, 2, .bipush 16, [16, 0]) := rfl
theorem pa_Mod_write_102 : pr_Mod_write[102]? = some (186, 3, .if_icmp .ge (23), [114]) := rfl
theorem pa_Mod_write_103 : pr_Mod_write[103]? = some (189, 1, .aload_n 0, []) := rfl
theorem pa_Mod_write_104 : pr_Mod_write[104]? = some (190, 2, .bipush 16, [16, 0]) := rfl
theorem pa_Mod_write_105 : pr_Mod_write[105]? = some (192, 1, .iload_n 3, []) := rfl
theorem pa_Mod_write_106 : pr_Mod_write[106]? = some (193, 1, .imul, []) := rfl
theorem pa_Mod_write_107 : pr_Mod_write[107]? = some (194, 2, .iload 4, []) := rfl
theorem pa_Mod_write_108 : pr_Mod_write[108]? = some (196, 1, .iadd, []) := rfl
theorem pa_Mod_write_109 : pr_Mod_write[109]? = some (197, 1, .iload_n 3, []) := rfl
theorem pa_Mod_write_110 : pr_Mod_write[110]? = some (198, 2, .iload 4, []) := rfl
theorem pa_Mod_write_111 : pr_Mod_write[111]? = some (200, 3, .invokevirtual 90, [67, 3, 7, 0, 711, 713, 29, 47]) := rfl
theorem pa_Mod_write_112 : pr_Mod_write[112]? = some (203, 3, .iinc 4 (1), [1, 0]) := rfl
theorem pa_Mod_write_113 : pr_Mod_write[113]? = some (206, 3, .goto (-24), [100]) := rfl
theorem pa_Mod_write_114 : pr_Mod_write[114]? = some (209, 3, .iinc 3 (1), [1, 0]) := rfl
theorem pa_Mod_write_115 : pr_Mod_write[115]? = some (212, 3, .goto (-184), [18]) := rfl
theorem pa_Mod_write_116 : pr_Mod_write[116]? = some (215, 1, .aload_n 0, []) := rfl
theorem pa_Mod_write_117 : pr_Mod_write[117]? = some (216, 2, .bipush 16, [16, 0]) := rfl
theorem pa_Mod_write_118 : pr_Mod_write[118]? = some (218, 1, .iload_n 2, []) := rfl
theorem pa_Mod_write_119 : pr_Mod_write[119]? = some (219, 1, .imul, []) := rfl
theorem pa_Mod_write_120 : pr_Mod_write[120]? = some (220, 3, .putfield 94, [7, 2, 0, 0, 622]) := rfl
theorem pa_Mod_write_121 : pr_Mod_write[121]? = some (223, 1, .aload_n 0, []) := rfl
theorem pa_Mod_write_122 : pr_Mod_write[122]? = some (224, 1, .iconst 0, [0, 0]) := rfl
theorem pa_Mod_write_123 : pr_Mod_write[123]? = some (225, 3, .putfield 97, [7, 4, 0, 0, 624]) := rfl
theorem pa_Mod_write_124 : pr_Mod_write[124]? = some (228, 1, .aload_n 0, []) := rfl
theorem pa_Mod_write_125 : pr_Mod_write[125]? = some (229, 3, .getfield 94, [7, 2, 0, 0, 622]) := rfl
theorem pa_Mod_write_126 : pr_Mod_write[126]? = some (232, 1, .ireturn, [0]) := rfl
def pa_Mod_write := And.intro pa_Mod_write_0 (And.intro pa_Mod_write_1 (And.intro pa_Mod_write_2 (And.intro pa_Mod_write_3 (And.intro pa_Mod_write_4 (And.intro pa_Mod_write_5 (And.intro pa_Mod_write_6 (And.intro pa_Mod_write_7 (And.intro pa_Mod_write_8 (And.intro pa_Mod_write_9 (And.intro pa_Mod_write_10 (And.intro pa_Mod_write_11 (And.intro pa_Mod_write_12 (And.intro pa_Mod_write_13 (And.intro pa_Mod_write_14 (And.intro pa_Mod_write_15 (And.intro pa_Mod_write_16 (And.intro pa_Mod_write_17 (And.intro pa_Mod_write_18 (And.intro pa_Mod_write_19 (And.intro pa_Mod_write_20 (And.intro pa_Mod_write_21 (And.intro pa_Mod_write_22 (And.intro pa_Mod_write_23 (And.intro pa_Mod_write_24 (And.intro pa_Mod_write_25 (And.intro pa_Mod_write_26 (And.intro pa_Mod_write_27 (And.intro pa_Mod_write_28 (And.intro pa_Mod_write_29 (And.intro pa_Mod_write_30 (And.intro pa_Mod_write_31 (And.intro pa_Mod_write_32 (And.intro pa_Mod_write_33 (And.intro pa_Mod_write_34 (And.intro pa_Mod_write_35 (And.intro pa_Mod_write_36 (And.intro pa_Mod_write_37 (And.intro pa_Mod_write_38 (And.intro pa_Mod_write_39 (And.intro pa_Mod_write_40 (And.intro pa_Mod_write_41 (And.intro pa_Mod_write_42 (And.intro pa_Mod_write_43 (And.intro pa_Mod_write_44 (And.intro pa_Mod_write_45 (And.intro pa_Mod_write_46 (And.intro pa_Mod_write_47 (And.intro pa_Mod_write_48 (And.intro pa_Mod_write_49 (And.intro pa_Mod_write_50 (And.intro pa_Mod_write_51 (And.intro pa_Mod_write_52 (And.intro pa_Mod_write_53 (And.intro pa_Mod_write_54 (And.intro pa_Mod_write_55 (And.intro pa_Mod_write_56 (And.intro pa_Mod_write_57 (And.intro pa_Mod_write_58 (And.intro pa_Mod_write_59 (And.intro pa_Mod_write_60 (And.intro pa_Mod_write_61 (And.intro pa_Mod_write_62 (And.intro pa_Mod_write_63 (And.intro pa_Mod_write_64 (And.intro pa_Mod_write_65 (And.intro pa_Mod_write_66 (And.intro pa_Mod_write_67 (And.intro pa_Mod_write_68 (And.intro pa_Mod_write_69 (And.intro pa_Mod_write_70 (And.intro pa_Mod_write_71 (And.intro pa_Mod_write_72 (And.intro pa_Mod_write_73 (And.intro pa_Mod_write_74 (And.intro pa_Mod_write_75 (And.intro pa_Mod_write_76 (And.intro pa_Mod_write_77 (And.intro pa_Mod_write_78 (And.intro pa_Mod_write_79 (And.intro pa_Mod_write_80 (And.intro pa_Mod_write_81 (And.intro pa_Mod_write_82 (And.intro pa_Mod_write_83 (And.intro pa_Mod_write_84 (And.intro pa_Mod_write_85 (And.intro pa_Mod_write_86 (And.intro pa_Mod_write_87 (And.intro pa_Mod_write_88 (And.intro pa_Mod_write_89 (And.intro pa_Mod_write_90 (And.intro pa_Mod_write_91 (And.intro pa_Mod_write_92 (And.intro pa_Mod_write_93 (And.intro pa_Mod_write_94 (And.intro pa_Mod_write_95 (And.intro pa_Mod_write_96 (And.intro pa_Mod_write_97 (And.intro pa_Mod_write_98 (And.intro pa_Mod_write_99 (And.intro pa_Mod_write_100 (And.intro pa_Mod_write_101 (And.intro pa_Mod_write_102 (And.intro pa_Mod_write_103 (And.intro pa_Mod_write_104 (And.intro pa_Mod_write_105 (And.intro pa_Mod_write_106 (And.intro pa_Mod_write_107 (And.intro pa_Mod_write_108 (And.intro pa_Mod_write_109 (And.intro pa_Mod_write_110 (And.intro pa_Mod_write_111 (And.intro pa_Mod_write_112 (And.intro pa_Mod_write_113 (And.intro pa_Mod_write_114 (And.intro pa_Mod_write_115 (And.intro pa_Mod_write_116 (And.intro pa_Mod_write_117 (And.intro pa_Mod_write_118 (And.intro pa_Mod_write_119 (And.intro pa_Mod_write_120 (And.intro pa_Mod_write_121 (And.intro pa_Mod_write_122 (And.intro pa_Mod_write_123 (And.intro pa_Mod_write_124 (And.intro pa_Mod_write_125 (pa_Mod_write_126))))))))))))))))))))))))))))))))))))))))))))))))))))))))))))))))))))))))))))))))))))))))))))))))))))))))))))))))))))))))))))))
def pr_Rdr_restore : List ma_E := [(0, 1, .aload_n 1, []),
  (1, 3, .getfield 25, [0, 2, 0, 1, 2]),
  (4, 2, .bipush 44, [44, 0]),
  (6, 3, .if_icmp .lt (20), [12]),
  (9, 1, .aload_n 1, []),
  (10, 3, .getfield 25, [0, 2, 0, 1, 2]),
  (13, 2, .bipush 46, [46, 0]),
  (15, 3, .if_icmp .gt (11), [12]),
  (18, 1, .aload_n 0, []),
  (19, 1, .aload_n 1, []),
  (20, 3, .invokevirtual 30, [80, 1, 3, 0, 456, 458, 18, 46]),
  (23, 3, .ifCond .ne (5), [14]),
  (26, 1, .iconst 0, [0, 0]),
  (27, 1, .ireturn, [1]),
  (28, 1, .aload_n 1, []),
  (29, 3, .getfield 25, [0, 2, 0, 1, 2]),
  (32, 2, .bipush 45, [45, 0]),
  (34, 3, .if_icmp .ge (9), [22]),
  (37, 1, .aload_n 0, []),
  (38, 1, .aload_n 1, []),
  (39, 3, .invokevirtual 34, [77, 1, 3, 0, 464, 466, 19, 46]),
  (42, 1, .ireturn, [1]),
  (43, 1, .aload_n 1, []),
  (44, 3, .getfield 25, [0, 2, 0, 1, 2]),
  (47, 2, .bipush 45, [45, 0]),
  (49, 3, .if_icmp .ne (11), [30]),
  (52, 1, .aload_n 0, []),
  (53, 1, .aload_n 1, []),
  (54, 3, .invokevirtual 37, [79, 1, 3, 0, 478, 480, 21, 46]),
  (57, 3, .goto (8), [33]),
  (60, 1, .aload_n 0, []),
  (61, 1, .aload_n 1, []),
  (62, 3, .invokevirtual 40, [78, 1, 3, 0, 482, 484, 22, 46]),
  (65, 1, .ireturn, [1])]
theorem po_Rdr_restore : ma_ok me_Rdr_restore pr_Rdr_restore := ma_ok_of (by decide +kernel)
theorem pa_Rdr_restore_0 : pr_Rdr_restore[0]? = some (0, 1, .aload_n 1, []) := rfl
theorem pa_Rdr_restore_1 : pr_Rdr_restore[1]? = some (1, 3, .getfield 25, [0, 2, 0, 1, 2]) := rfl
theorem pa_Rdr_restore_2 : pr_Rdr_restore[2]? = some (4, 2, .bipush 44, [44, 0]) := rfl
theorem pa_Rdr_restore_3 : pr_Rdr_restore[3]? = some (6, 3, .if_icmp .lt (20), [12]) := rfl
theorem pa_Rdr_restore_4 : pr_Rdr_restore[4]? = some (9, 1, .aload_n 1, []) := rfl
theorem pa_Rdr_restore_5 : pr_Rdr_restore[5]? = some (10, 3, .getfield 25, [0, 2, 0, 1, 2]) := rfl
theorem pa_Rdr_restore_6 : pr_Rdr_restore[6]? = some (13, 2, .bipush 46, [46, 0]) := rfl
theorem pa_Rdr_restore_7 : pr_Rdr_restore[7]? = some (15, 3, .if_icmp .gt (11), [12]) := rfl
theorem pa_Rdr_restore_8 : pr_Rdr_restore[8]? = some (18, 1, .aload_n 0, []) := rfl
theorem pa_Rdr_restore_9 : pr_Rdr_restore[9]? = some (19, 1, .aload_n 1, []) := rfl
theorem pa_Rdr_restore_10 : pr_Rdr_restore[10]? = some (20, 3, .invokevirtual 30, [80, 1, 3, 0, 456, 458, 18, 46]) := rfl
theorem pa_Rdr_restore_11 : pr_Rdr_restore[11]? = some (23, 3, .ifCond .ne (5), [14]) := rfl
theorem pa_Rdr_restore_12 : pr_Rdr_restore[12]? = some (26, 1, .iconst 0, [0, 0]) := rfl
theorem pa_Rdr_restore_13 : pr_Rdr_restore[13]? = some (27, 1, .ireturn, [1]) := rfl
theorem pa_Rdr_restore_14 : pr_Rdr_restore[14]? = some (28, 1, .aload_n 1, []) := rfl
theorem pa_Rdr_restore_15 : pr_Rdr_restore[15]? = some (29, 3, .getfield 25, [0, 2, 0, 1, 2]) := rfl
theorem pa_Rdr_restore_16 : pr_Rdr_restore[16]? = some (32, 2, .bipush 45, [45, 0]) := rfl
theorem pa_Rdr_restore_17 : pr_Rdr_restore[17]? = some (34, 3, .if_icmp .ge (9), [22]) := rfl
theorem pa_Rdr_restore_18 : pr_Rdr_restore[18]? = some (37, 1, .aload_n 0, []) := rfl
theorem pa_Rdr_restore_19 : pr_Rdr_restore[19]? = some (38, 1, .aload_n 1, []) := rfl
theorem pa_Rdr_restore_20 : pr_Rdr_restore[20]? = some (39, 3, .invokevirtual 34, [77, 1, 3, 0, 464, 466, 19, 46]) := rfl
theorem pa_Rdr_restore_21 : pr_Rdr_restore[21]? = some (42, 1, .ireturn, [1]) := rfl
theorem pa_Rdr_restore_22 : pr_Rdr_restore[22]? = some (43, 1, .aload_n 1, []) := rfl
theorem pa_Rdr_restore_23 : pr_Rdr_restore[23]? = some (44, 3, .getfield 25, [0, 2, 0, 1, 2]) := rfl
theorem pa_Rdr_restore_24 : pr_Rdr_restore[24]? = some (47, 2, .bipush 45, [45, 0]) := rfl
theorem pa_Rdr_restore_25 : pr_Rdr_restore[25]? = some (49, 3, .if_icmp .ne (11), [30]) := rfl
theorem pa_Rdr_restore_26 : pr_Rdr_restore[26]? = some (52, 1, .aload_n 0, []) := rfl
theorem pa_Rdr_restore_27 : pr_Rdr_restore[27]? = some (53, 1, .aload_n 1, []) := rfl
theorem pa_Rdr_restore_28 : pr_Rdr_restore[28]? = some (54, 3, .invokevirtual 37, [79, 1, 3, 0, 478, 480, 21, 46]) := rfl
theorem pa_Rdr_restore_29 : pr_Rdr_restore[29]? = some (57, 3, .goto (8), [33]) := rfl
theorem pa_Rdr_restore_30 : pr_Rdr_restore[30]? = some (60, 1, .aload_n 0, []) := rfl
theorem pa_Rdr_restore_31 : pr_Rdr_restore[31]? = some (61, 1, .aload_n 1, []) := rfl
theorem pa_Rdr_restore_32 : pr_Rdr_restore[32]? = some (62, 3, .invokevirtual 40, [78, 1, 3, 0, 482, 484, 22, 46]) := rfl
theorem pa_Rdr_restore_33 : pr_Rdr_restore[33]? = some (65, 1, .ireturn, [1]) := rfl
def pa_Rdr_restore := And.intro pa_Rdr_restore_0 (And.intro pa_Rdr_restore_1 (And.intro pa_Rdr_restore_2 (And.intro pa_Rdr_restore_3 (And.intro pa_Rdr_restore_4 (And.intro pa_Rdr_restore_5 (And.intro pa_Rdr_restore_6 (And.intro pa_Rdr_restore_7 (And.intro pa_Rdr_restore_8 (And.intro pa_Rdr_restore_9 (And.intro pa_Rdr_restore_10 (And.intro pa_Rdr_restore_11 (And.intro pa_Rdr_restore_12 (And.intro pa_Rdr_restore_13 (And.intro pa_Rdr_restore_14 (And.intro pa_Rdr_restore_15 (And.intro pa_Rdr_restore_16 (And.intro pa_Rdr_restore_17 (And.intro pa_Rdr_restore_18 (And.intro pa_Rdr_restore_19 (And.intro pa_Rdr_restore_20 (And.intro pa_Rdr_restore_21 (And.intro pa_Rdr_restore_22 (And.intro pa_Rdr_restore_23 (And.intro pa_Rdr_restore_24 (And.intro pa_Rdr_restore_25 (And.intro pa_Rdr_restore_26 (And.intro pa_Rdr_restore_27 (And.intro pa_Rdr_restore_28 (And.intro pa_Rdr_restore_29 (And.intro pa_Rdr_restore_30 (And.intro pa_Rdr_restore_31 (And.intro pa_Rdr_restore_32 (pa_Rdr_restore_33)))))))))))))))))))))))))))))))))
def pr_Col_mend : List ma_E := [(0, 1, .aload_n 0, []),
  (1, 3, .invokevirtual 41, [11, 0, 4, 0, 279, 281, 1, 43]),
  (4, 1, .istore_n 1, []),
  (5, 1, .iload_n 1, []),
  (6, 2, .bipush 6, [6, 0]),
  (8, 3, .if_icmp .le (5), [8]),
  (11, 1, .iconst 0, [0, 0]),
  (12, 1, .ireturn, [1]),
  (13, 2, .bipush 6, [6, 0]),
  (15, 1, .iload_n 1, []),
  (16, 1, .isub, []),
  (17, 1, .istore_n 2, []),
  (18, 1, .aload_n 0, []),
  (19, 3, .invokevirtual 45, [49, 0, 4, 0, 283, 285, 2, 43]),
  (22, 1, .aload_n 0, []),
  (23, 1, .iload_n 2, []),
  (24, 3, .invokevirtual 48, [84, 1, 4, 0, 295, 297, 3, 43]),
  (27, 1, .aload_n 0, []),
  (28, 1, .iload_n 2, []),
  (29, 3, .invokevirtual 52, [82, 1, 4, 0, 310, 312, 6, 43]),
  (32, 1, .istore_n 3, []),
  (33, 1, .iconst 2, [2, 0]),
  (34, 1, .iload_n 3, []),
  (35, 1, .imul, []),
  (36, 1, .iload_n 2, []),
  (37, 3, .if_icmp .gt (12), [31]),
  (40, 1, .aload_n 0, []),
  (41, 1, .iload_n 3, []),
  (42, 3, .invokevirtual 56, [83, 1, 4, 0, 325, 327, 8, 43]),
  (45, 1, .iload_n 3, []),
  (46, 3, .if_icmp .eq (5), [33]),
  (49, 1, .iconst 0, [0, 0]),
  (50, 1, .ireturn, [1]),
  (51, 1, .aload_n 0, []),
  (52, 3, .invokevirtual 59, [81, 0, 4, 0, 333, 335, 10, 43]),
  (55, 1, .iconst 1, [1, 0]),
  (56, 1, .ireturn, [1])]
theorem po_Col_mend : ma_ok me_Col_mend pr_Col_mend := ma_ok_of (by decide +kernel)
theorem pa_Col_mend_0 : pr_Col_mend[0]? = some (0, 1, .aload_n 0, []) := rfl
theorem pa_Col_mend_1 : pr_Col_mend[1]? = some (1, 3, .invokevirtual 41, [11, 0, 4, 0, 279, 281, 1, 43]) := rfl
theorem pa_Col_mend_2 : pr_Col_mend[2]? = some (4, 1, .istore_n 1, []) := rfl
theorem pa_Col_mend_3 : pr_Col_mend[3]? = some (5, 1, .iload_n 1, []) := rfl
theorem pa_Col_mend_4 : pr_Col_mend[4]? = some (6, 2, .bipush 6, [6, 0]) := rfl
theorem pa_Col_mend_5 : pr_Col_mend[5]? = some (8, 3, .if_icmp .le (5), [8]) := rfl
theorem pa_Col_mend_6 : pr_Col_mend[6]? = some (11, 1, .iconst 0, [0, 0]) := rfl
theorem pa_Col_mend_7 : pr_Col_mend[7]? = some (12, 1, .ireturn, [1]) := rfl
theorem pa_Col_mend_8 : pr_Col_mend[8]? = some (13, 2, .bipush 6, [6, 0]) := rfl
theorem pa_Col_mend_9 : pr_Col_mend[9]? = some (15, 1, .iload_n 1, []) := rfl
theorem pa_Col_mend_10 : pr_Col_mend[10]? = some (16, 1, .isub, []) := rfl
theorem pa_Col_mend_11 : pr_Col_mend[11]? = some (17, 1, .istore_n 2, []) := rfl
theorem pa_Col_mend_12 : pr_Col_mend[12]? = some (18, 1, .aload_n 0, []) := rfl
theorem pa_Col_mend_13 : pr_Col_mend[13]? = some (19, 3, .invokevirtual 45, [49, 0, 4, 0, 283, 285, 2, 43]) := rfl
theorem pa_Col_mend_14 : pr_Col_mend[14]? = some (22, 1, .aload_n 0, []) := rfl
theorem pa_Col_mend_15 : pr_Col_mend[15]? = some (23, 1, .iload_n 2, []) := rfl
theorem pa_Col_mend_16 : pr_Col_mend[16]? = some (24, 3, .invokevirtual 48, [84, 1, 4, 0, 295, 297, 3, 43]) := rfl
theorem pa_Col_mend_17 : pr_Col_mend[17]? = some (27, 1, .aload_n 0, []) := rfl
theorem pa_Col_mend_18 : pr_Col_mend[18]? = some (28, 1, .iload_n 2, []) := rfl
theorem pa_Col_mend_19 : pr_Col_mend[19]? = some (29, 3, .invokevirtual 52, [82, 1, 4, 0, 310, 312, 6, 43]) := rfl
theorem pa_Col_mend_20 : pr_Col_mend[20]? = some (32, 1, .istore_n 3, []) := rfl
theorem pa_Col_mend_21 : pr_Col_mend[21]? = some (33, 1, .iconst 2, [2, 0]) := rfl
theorem pa_Col_mend_22 : pr_Col_mend[22]? = some (34, 1, .iload_n 3, []) := rfl
theorem pa_Col_mend_23 : pr_Col_mend[23]? = some (35, 1, .imul, []) := rfl
theorem pa_Col_mend_24 : pr_Col_mend[24]? = some (36, 1, .iload_n 2, []) := rfl
theorem pa_Col_mend_25 : pr_Col_mend[25]? = some (37, 3, .if_icmp .gt (12), [31]) := rfl
theorem pa_Col_mend_26 : pr_Col_mend[26]? = some (40, 1, .aload_n 0, []) := rfl
theorem pa_Col_mend_27 : pr_Col_mend[27]? = some (41, 1, .iload_n 3, []) := rfl
theorem pa_Col_mend_28 : pr_Col_mend[28]? = some (42, 3, .invokevirtual 56, [83, 1, 4, 0, 325, 327, 8, 43]) := rfl
theorem pa_Col_mend_29 : pr_Col_mend[29]? = some (45, 1, .iload_n 3, []) := rfl
theorem pa_Col_mend_30 : pr_Col_mend[30]? = some (46, 3, .if_icmp .eq (5), [33]) := rfl
theorem pa_Col_mend_31 : pr_Col_mend[31]? = some (49, 1, .iconst 0, [0, 0]) := rfl
theorem pa_Col_mend_32 : pr_Col_mend[32]? = some (50, 1, .ireturn, [1]) := rfl
theorem pa_Col_mend_33 : pr_Col_mend[33]? = some (51, 1, .aload_n 0, []) := rfl
theorem pa_Col_mend_34 : pr_Col_mend[34]? = some (52, 3, .invokevirtual 59, [81, 0, 4, 0, 333, 335, 10, 43]) := rfl
theorem pa_Col_mend_35 : pr_Col_mend[35]? = some (55, 1, .iconst 1, [1, 0]) := rfl
theorem pa_Col_mend_36 : pr_Col_mend[36]? = some (56, 1, .ireturn, [1]) := rfl
def pa_Col_mend := And.intro pa_Col_mend_0 (And.intro pa_Col_mend_1 (And.intro pa_Col_mend_2 (And.intro pa_Col_mend_3 (And.intro pa_Col_mend_4 (And.intro pa_Col_mend_5 (And.intro pa_Col_mend_6 (And.intro pa_Col_mend_7 (And.intro pa_Col_mend_8 (And.intro pa_Col_mend_9 (And.intro pa_Col_mend_10 (And.intro pa_Col_mend_11 (And.intro pa_Col_mend_12 (And.intro pa_Col_mend_13 (And.intro pa_Col_mend_14 (And.intro pa_Col_mend_15 (And.intro pa_Col_mend_16 (And.intro pa_Col_mend_17 (And.intro pa_Col_mend_18 (And.intro pa_Col_mend_19 (And.intro pa_Col_mend_20 (And.intro pa_Col_mend_21 (And.intro pa_Col_mend_22 (And.intro pa_Col_mend_23 (And.intro pa_Col_mend_24 (And.intro pa_Col_mend_25 (And.intro pa_Col_mend_26 (And.intro pa_Col_mend_27 (And.intro pa_Col_mend_28 (And.intro pa_Col_mend_29 (And.intro pa_Col_mend_30 (And.intro pa_Col_mend_31 (And.intro pa_Col_mend_32 (And.intro pa_Col_mend_33 (And.intro pa_Col_mend_34 (And.intro pa_Col_mend_35 (pa_Col_mend_36))))))))))))))))))))))))))))))))))))
def pr_Dec_init : List ma_E := [(0, 1, .aload_n 0, []),
  (1, 3, .invokespecial 3, [0, 162, 62, 63]),
  (4, 1, .aload_n 0, []),
  (5, 3, .new 9, [3, 3, 163, 164, 46]),
  (8, 1, .dup, []),
  (9, 3, .invokespecial 11, [76, 0, 1, 1, 166, 46]),
  (12, 3, .putfield 12, [5, 1, 2, 0, 183]),
  (15, 1, .aload_n 0, []),
  (16, 2, .bipush 64, [64, 0]),
  (18, 2, .newarray .int, [89]),
  (20, 3, .putfield 18, [5, 2, 2, 0, 184]),
  (23, 1, .aload_n 0, []),
  (24, 3, .sipush 256, [256, 0]),
  (27, 2, .newarray .int, [89]),
  (29, 3, .putfield 22, [5, 3, 2, 0, 185]),
  (32, 1, .aload_n 0, []),
  (33, 1, .iconst 0, [0, 0]),
  (34, 3, .putfield 25, [5, 4, 0, 0, 186]),
  (37, 1, .aload_n 0, []),
  (38, 1, .iconst 0, [0, 0]),
  (39, 3, .putfield 29, [5, 5, 0, 0, 187]),
  (42, 1, .aload_n 0, []),
  (43, 1, .iconst 0, [0, 0]),
  (44, 3, .putfield 32, [5, 6, 0, 0, 189]),
  (47, 1, .aload_n 0, []),
  (48, 1, .iconst 0, [0, 0]),
  (49, 3, .putfield 35, [5, 7, 0, 0, 191]),
  (52, 1, .aload_n 0, []),
  (53, 3, .sipush 160, [160, 0]),
  (56, 2, .newarray .int, [89]),
  (58, 3, .putfield 38, [5, 8, 2, 0, 193]),
  (61, 1, .aload_n 0, []),
  (62, 1, .iconst 4, [4, 0]),
  (63, 2, .newarray .int, [89]),
  (65, 3, .putfield 41, [5, 9, 2, 0, 195]),
  (68, 1, .aload_n 0, []),
  (69, 1, .iconst 4, [4, 0]),
  (70, 2, .newarray .int, [89]),
  (72, 3, .putfield 44, [5, 10, 2, 0, 197]),
  (75, 1, .aload_n 0, []),
  (76, 1, .aload_n 1, []),
  (77, 3, .putfield 47, [5, 0, 2, 0, 182]),
  (80, 1, .return_, [])]
theorem po_Dec_init : ma_ok me_Dec_init pr_Dec_init := ma_ok_of (by decide +kernel)
theorem pa_Dec_init_0 : pr_Dec_init[0]? = some (0, 1, .aload_n 0, []) := rfl
theorem pa_Dec_init_1 : pr_Dec_init[1]? = some (1, 3, .invokespecial 3, [0, 162, 62, 63]) := rfl
theorem pa_Dec_init_2 : pr_Dec_init[2]? = some (4, 1, .aload_n 0, []) := rfl
theorem pa_Dec_init_3 : pr_Dec_init[3]? = some (5, 3, .new 9, [3, 3, 163, 164, 46]) := rfl
theorem pa_Dec_init_4 : pr_Dec_init[4]? = some (8, 1, .dup, []) := rfl
theorem pa_Dec_init_5 : pr_Dec_init[5]? = some (9, 3, .invokespecial 11, [76, 0, 1, 1, 166, 46]) := rfl
theorem pa_Dec_init_6 : pr_Dec_init[6]? = some (12, 3, .putfield 12, [5, 1, 2, 0, 183]) := rfl
theorem pa_Dec_init_7 : pr_Dec_init[7]? = some (15, 1, .aload_n 0, []) := rfl
theorem pa_Dec_init_8 : pr_Dec_init[8]? = some (16, 2, .bipush 64, [64, 0]) := rfl
theorem pa_Dec_init_9 : pr_Dec_init[9]? = some (18, 2, .newarray .int, [89]) := rfl
theorem pa_Dec_init_10 : pr_Dec_init[10]? = some (20, 3, .putfield 18, [5, 2, 2, 0, 184]) := rfl
theorem pa_Dec_init_11 : pr_Dec_init[11]? = some (23, 1, .aload_n 0, []) := rfl
theorem pa_Dec_init_12 : pr_Dec_init[12]? = some (24, 3, .sipush 256, [256, 0]) := rfl
theorem pa_Dec_init_13 : pr_Dec_init[13]? = some (27, 2, .newarray .int, [89]) := rfl
theorem pa_Dec_init_14 : pr_Dec_init[14]? = some (29, 3, .putfield 22, [5, 3, 2, 0, 185]) := rfl
theorem pa_Dec_init_15 : pr_Dec_init[15]? = some (32, 1, .aload_n 0, []) := rfl
theorem pa_Dec_init_16 : pr_Dec_init[16]? = some (33, 1, .iconst 0, [0, 0]) := rfl
theorem pa_Dec_init_17 : pr_Dec_init[17]? = some (34, 3, .putfield 25, [5, 4, 0, 0, 186]) := rfl
theorem pa_Dec_init_18 : pr_Dec_init[18]? = some (37, 1, .aload_n 0, []) := rfl
theorem pa_Dec_init_19 : pr_Dec_init[19]? = some (38, 1, .iconst 0, [0, 0]) := rfl
theorem pa_Dec_init_20 : pr_Dec_init[20]? = some (39, 3, .putfield 29, [5, 5, 0, 0, 187]) := rfl
theorem pa_Dec_init_21 : pr_Dec_init[21]? = some (42, 1, .aload_n 0, []) := rfl
theorem pa_Dec_init_22 : pr_Dec_init[22]? = some (43, 1, .iconst 0, [0, 0]) := rfl
theorem pa_Dec_init_23 : pr_Dec_init[23]? = some (44, 3, .putfield 32, [5, 6, 0, 0, 189]) := rfl
theorem pa_Dec_init_24 : pr_Dec_init[24]? = some (47, 1, .aload_n 0, []) := rfl
theorem pa_Dec_init_25 : pr_Dec_init[25]? = some (48, 1, .iconst 0, [0, 0]) := rfl
theorem pa_Dec_init_26 : pr_Dec_init[26]? = some (49, 3, .putfield 35, [5, 7, 0, 0, 191]) := rfl
theorem pa_Dec_init_27 : pr_Dec_init[27]? = some (52, 1, .aload_n 0, []) := rfl
theorem pa_Dec_init_28 : pr_Dec_init[28]? = some (53, 3, .sipush 160, [160, 0]) := rfl
theorem pa_Dec_init_29 : pr_Dec_init[29]? = some (56, 2, .newarray .int, [89]) := rfl
theorem pa_Dec_init_30 : pr_Dec_init[30]? = some (58, 3, .putfield 38, [5, 8, 2, 0, 193]) := rfl
theorem pa_Dec_init_31 : pr_Dec_init[31]? = some (61, 1, .aload_n 0, []) := rfl
theorem pa_Dec_init_32 : pr_Dec_init[32]? = some (62, 1, .iconst 4, [4, 0]) := rfl
theorem pa_Dec_init_33 : pr_Dec_init[33]? = some (63, 2, .newarray .int, [89]) := rfl
theorem pa_Dec_init_34 : pr_Dec_init[34]? = some (65, 3, .putfield 41, [5, 9, 2, 0, 195]) := rfl
theorem pa_Dec_init_35 : pr_Dec_init[35]? = some (68, 1, .aload_n 0, []) := rfl
theorem pa_Dec_init_36 : pr_Dec_init[36]? = some (69, 1, .iconst 4, [4, 0]) := rfl
theorem pa_Dec_init_37 : pr_Dec_init[37]? = some (70, 2, .newarray .int, [89]) := rfl
theorem pa_Dec_init_38 : pr_Dec_init[38]? = some (72, 3, .putfield 44, [5, 10, 2, 0, 197]) := rfl
theorem pa_Dec_init_39 : pr_Dec_init[39]? = some (75, 1, .aload_n 0, []) := rfl
theorem pa_Dec_init_40 : pr_Dec_init[40]? = some (76, 1, .aload_n 1, []) := rfl
theorem pa_Dec_init_41 : pr_Dec_init[41]? = some (77, 3, .putfield 47, [5, 0, 2, 0, 182]) := rfl
theorem pa_Dec_init_42 : pr_Dec_init[42]? = some (80, 1, .return_, []) := rfl
def pa_Dec_init := And.intro pa_Dec_init_0 (And.intro pa_Dec_init_1 (And.intro pa_Dec_init_2 (And.intro pa_Dec_init_3 (And.intro pa_Dec_init_4 (And.intro pa_Dec_init_5 (And.intro pa_Dec_init_6 (And.intro pa_Dec_init_7 (And.intro pa_Dec_init_8 (And.intro pa_Dec_init_9 (And.intro pa_Dec_init_10 (And.intro pa_Dec_init_11 (And.intro pa_Dec_init_12 (And.intro pa_Dec_init_13 (And.intro pa_Dec_init_14 (And.intro pa_Dec_init_15 (And.intro pa_Dec_init_16 (And.intro pa_Dec_init_17 (And.intro pa_Dec_init_18 (And.intro pa_Dec_init_19 (And.intro pa_Dec_init_20 (And.intro pa_Dec_init_21 (And.intro pa_Dec_init_22 (And.intro pa_Dec_init_23 (And.intro pa_Dec_init_24 (And.intro pa_Dec_init_25 (And.intro pa_Dec_init_26 (And.intro pa_Dec_init_27 (And.intro pa_Dec_init_28 (And.intro pa_Dec_init_29 (And.intro pa_Dec_init_30 (And.intro pa_Dec_init_31 (And.intro pa_Dec_init_32 (And.intro pa_Dec_init_33 (And.intro pa_Dec_init_34 (And.intro pa_Dec_init_35 (And.intro pa_Dec_init_36 (And.intro pa_Dec_init_37 (And.intro pa_Dec_init_38 (And.intro pa_Dec_init_39 (And.intro pa_Dec_init_40 (And.intro pa_Dec_init_41 (pa_Dec_init_42))))))))))))))))))))))))))))))))))))))))))
