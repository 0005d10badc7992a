/-! the methods as tables -/
def pr_Arc_init : List ma_E := [(0, 1, .aload_n 0, []),
  (1, 3, .invokespecial 3, [0, 61, 62, 63]),
  (4, 1, .aload_n 0, []),
  (5, 3, .sipush 160, [160, 0]),
  (8, 2, .newarray .int, [89]),
  (10, 3, .putfield 9, [6, 0, 2, 0, 222]),
  (13, 1, .aload_n 0, []),
  (14, 2, .bipush 64, [64, 0]),
  (16, 3, .invokestatic 13, [85, 1, 0, 64, 65, 40]),
  (19, 3, .putfield 17, [6, 1, 2, 0, 223]),
  (22, 1, .aload_n 0, []),
  (23, 1, .iconst 0, [0, 0]),
  (24, 3, .putfield 21, [6, 2, 0, 0, 224]),
  (27, 1, .aload_n 0, []),
  (28, 2, .bipush 90, [90, 0]),
  (30, 3, .invokestatic 13, [107, 1, 0, 64, 65, 40]),
  (33, 3, .putfield 25, [6, 3, 2, 0, 225]),
  (36, 1, .aload_n 0, []),
  (37, 1, .iconst 0, [0, 0]),
  (38, 3, .putfield 28, [6, 4, 0, 0, 226]),
  (41, 1, .aload_n 0, []),
  (42, 3, .new 31, [1, 2, 90, 91, 42]),
  (45, 1, .dup, []),
  (46, 3, .invokespecial 33, [42, 0, 0, 92, 93, 42]),
  (49, 3, .putfield 34, [6, 5, 2, 0, 227]),
  (52, 1, .aload_n 0, []),
  (53, 3, .new 38, [4, 9, 103, 104, 43]),
  (56, 1, .dup, []),
  (57, 1, .aload_n 0, []),
  (58, 3, .getfield 34, [6, 5, 2, 0, 227]),
  (61, 3, .invokespecial 40, [48, 1, 0, 105, 106, 43]),
  (64, 3, .putfield 43, [6, 6, 2, 0, 228]),
  (67, 1, .aload_n 0, []),
  (68, 2, .bipush 64, [64, 0]),
  (70, 2, .newarray .int, [89]),
  (72, 3, .putfield 47, [6, 7, 2, 0, 229]),
  (75, 1, .aload_n 0, []),
  (76, 3, .new 50, [2, 3, 140, 141, 44]),
  (79, 1, .dup, []),
  (80, 3, .invokespecial 52, [43, 0, 0, 142, 143, 44]),
  (83, 3, .putfield 53, [6, 8, 2, 0, 230]),
  (86, 1, .aload_n 0, []),
  (87, 3, .new 57, [5, 11, 157, 158, 45]),
  (90, 1, .dup, []),
  (91, 1, .aload_n 0, []),
  (92, 3, .getfield 43, [6, 6, 2, 0, 228]),
  (95, 3, .invokespecial 59, [96, 1, 0, 159, 160, 45]),
  (98, 3, .putfield 62, [6, 9, 2, 0, 231]),
  (101, 1, .return_, [])]
theorem po_Arc_init : ma_ok me_Arc_init pr_Arc_init := ma_ok_of (by decide +kernel)
theorem pa_Arc_init_0 : pr_Arc_init[0]? = some (0, 1, .aload_n 0, []) := rfl
theorem pa_Arc_init_1 : pr_Arc_init[1]? = some (1, 3, .invokespecial 3, [0, 61, 62, 63]) := rfl
theorem pa_Arc_init_2 : pr_Arc_init[2]? = some (4, 1, .aload_n 0, []) := rfl
theorem pa_Arc_init_3 : pr_Arc_init[3]? = some (5, 3, .sipush 160, [160, 0]) := rfl
theorem pa_Arc_init_4 : pr_Arc_init[4]? = some (8, 2, .newarray .int, [89]) := rfl
theorem pa_Arc_init_5 : pr_Arc_init[5]? = some (10, 3, .putfield 9, [6, 0, 2, 0, 222]) := rfl
theorem pa_Arc_init_6 : pr_Arc_init[6]? = some (13, 1, .aload_n 0, []) := rfl
theorem pa_Arc_init_7 : pr_Arc_init[7]? = some (14, 2, .bipush 64, [64, 0]) := rfl
theorem pa_Arc_init_8 : pr_Arc_init[8]? = some (16, 3, .invokestatic 13, [85, 1, 0, 64, 65, 40]) := rfl
theorem pa_Arc_init_9 : pr_Arc_init[9]? = some (19, 3, .putfield 17, [6, 1, 2, 0, 223]) := rfl
theorem pa_Arc_init_10 : pr_Arc_init[10]? = some (22, 1, .aload_n 0, []) := rfl
theorem pa_Arc_init_11 : pr_Arc_init[11]? = some (23, 1, .iconst 0, [0, 0]) := rfl
theorem pa_Arc_init_12 : pr_Arc_init[12]? = some (24, 3, .putfield 21, [6, 2, 0, 0, 224]) := rfl
theorem pa_Arc_init_13 : pr_Arc_init[13]? = some (27, 1, .aload_n 0, []) := rfl
theorem pa_Arc_init_14 : pr_Arc_init[14]? = some (28, 2, .bipush 90, [90, 0]) := rfl
theorem pa_Arc_init_15 : pr_Arc_init[15]? = some (30, 3, .invokestatic 13, [107, 1, 0, 64, 65, 40]) := rfl
theorem pa_Arc_init_16 : pr_Arc_init[16]? = some (33, 3, .putfield 25, [6, 3, 2, 0, 225]) := rfl
theorem pa_Arc_init_17 : pr_Arc_init[17]? = some (36, 1, .aload_n 0, []) := rfl
theorem pa_Arc_init_18 : pr_Arc_init[18]? = some (37, 1, .iconst 0, [0, 0]) := rfl
theorem pa_Arc_init_19 : pr_Arc_init[19]? = some (38, 3, .putfield 28, [6, 4, 0, 0, 226]) := rfl
theorem pa_Arc_init_20 : pr_Arc_init[20]? = some (41, 1, .aload_n 0, []) := rfl
theorem pa_Arc_init_21 : pr_Arc_init[21]? = some (42, 3, .new 31, [1, 2, 90, 91, 42]) := rfl
theorem pa_Arc_init_22 : pr_Arc_init[22]? = some (45, 1, .dup, []) := rfl
theorem pa_Arc_init_23 : pr_Arc_init[23]? = some (46, 3, .invokespecial 33, [42, 0, 0, 92, 93, 42]) := rfl
theorem pa_Arc_init_24 : pr_Arc_init[24]? = some (49, 3, .putfield 34, [6, 5, 2, 0, 227]) := rfl
theorem pa_Arc_init_25 : pr_Arc_init[25]? = some (52, 1, .aload_n 0, []) := rfl
theorem pa_Arc_init_26 : pr_Arc_init[26]? = some (53, 3, .new 38, [4, 9, 103, 104, 43]) := rfl
theorem pa_Arc_init_27 : pr_Arc_init[27]? = some (56, 1, .dup, []) := rfl
theorem pa_Arc_init_28 : pr_Arc_init[28]? = some (57, 1, .aload_n 0, []) := rfl
theorem pa_Arc_init_29 : pr_Arc_init[29]? = some (58, 3, .getfield 34, [6, 5, 2, 0, 227]) := rfl
theorem pa_Arc_init_30 : pr_Arc_init[30]? = some (61, 3, .invokespecial 40, [48, 1, 0, 105, 106, 43]) := rfl
theorem pa_Arc_init_31 : pr_Arc_init[31]? = some (64, 3, .putfield 43, [6, 6, 2, 0, 228]) := rfl
theorem pa_Arc_init_32 : pr_Arc_init[32]? = some (67, 1, .aload_n 0, []) := rfl
theorem pa_Arc_init_33 : pr_Arc_init[33]? = some (68, 2, .bipush 64, [64, 0]) := rfl
theorem pa_Arc_init_34 : pr_Arc_init[34]? = some (70, 2, .newarray .int, [89]) := rfl
theorem pa_Arc_init_35 : pr_Arc_init[35]? = some (72, 3, .putfield 47, [6, 7, 2, 0, 229]) := rfl
theorem pa_Arc_init_36 : pr_Arc_init[36]? = some (75, 1, .aload_n 0, []) := rfl
theorem pa_Arc_init_37 : pr_Arc_init[37]? = some (76, 3, .new 50, [2, 3, 140, 141, 44]) := rfl
theorem pa_Arc_init_38 : pr_Arc_init[38]? = some (79, 1, .dup, []) := rfl
theorem pa_Arc_init_39 : pr_Arc_init[39]? = some (80, 3, .invokespecial 52, [43, 0, 0, 142, 143, 44]) := rfl
theorem pa_Arc_init_40 : pr_Arc_init[40]? = some (83, 3, .putfield 53, [6, 8, 2, 0, 230]) := rfl
theorem pa_Arc_init_41 : pr_Arc_init[41]? = some (86, 1, .aload_n 0, []) := rfl
theorem pa_Arc_init_42 : pr_Arc_init[42]? = some (87, 3, .new 57, [5, 11, 157, 158, 45]) := rfl
theorem pa_Arc_init_43 : pr_Arc_init[43]? = some (90, 1, .dup, []) := rfl
theorem pa_Arc_init_44 : pr_Arc_init[44]? = some (91, 1, .aload_n 0, []) := rfl
theorem pa_Arc_init_45 : pr_Arc_init[45]? = some (92, 3, .getfield 43, [6, 6, 2, 0, 228]) := rfl
theorem pa_Arc_init_46 : pr_Arc_init[46]? = some (95, 3, .invokespecial 59, [96, 1, 0, 159, 160, 45]) := rfl
theorem pa_Arc_init_47 : pr_Arc_init[47]? = some (98, 3, .putfield 62, [6, 9, 2, 0, 231]) := rfl
theorem pa_Arc_init_48 : pr_Arc_init[48]? = some (101, 1, .return_, []) := rfl
def pa_Arc_init := And.intro pa_Arc_init_0 (And.intro pa_Arc_init_1 (And.intro pa_Arc_init_2 (And.intro pa_Arc_init_3 (And.intro pa_Arc_init_4 (And.intro pa_Arc_init_5 (And.intro pa_Arc_init_6 (And.intro pa_Arc_init_7 (And.intro pa_Arc_init_8 (And.intro pa_Arc_init_9 (And.intro pa_Arc_init_10 (And.intro pa_Arc_init_11 (And.intro pa_Arc_init_12 (And.intro pa_Arc_init_13 (And.intro pa_Arc_init_14 (And.intro pa_Arc_init_15 (And.intro pa_Arc_init_16 (And.intro pa_Arc_init_17 (And.intro pa_Arc_init_18 (And.intro pa_Arc_init_19 (And.intro pa_Arc_init_20 (And.intro pa_Arc_init_21 (And.intro pa_Arc_init_22 (And.intro pa_Arc_init_23 (And.intro pa_Arc_init_24 (And.intro pa_Arc_init_25 (And.intro pa_Arc_init_26 (And.intro pa_Arc_init_27 (And.intro pa_Arc_init_28 (And.intro pa_Arc_init_29 (And.intro pa_Arc_init_30 (And.intro pa_Arc_init_31 (And.intro pa_Arc_init_32 (And.intro pa_Arc_init_33 (And.intro pa_Arc_init_34 (And.intro pa_Arc_init_35 (And.intro pa_Arc_init_36 (And.intro pa_Arc_init_37 (And.intro pa_Arc_init_38 (And.intro pa_Arc_init_39 (And.intro pa_Arc_init_40 (And.intro pa_Arc_init_41 (And.intro pa_Arc_init_42 (And.intro pa_Arc_init_43 (And.intro pa_Arc_init_44 (And.intro pa_Arc_init_45 (And.intro pa_Arc_init_46 (And.intro pa_Arc_init_47 (pa_Arc_init_48))))))))))))))))))))))))))))))))))))))))))))))))
def pr_Arc_fillBlock : List ma_E := [(0, 1, .iconst 0, [0, 0]),
  (1, 1, .istore_n 3, []),
  (2, 1, .iload_n 3, []),
  (3, 1, .iconst 4, [4, 0]),
  (4, 3, .if_icmp .ge (130), [71]),
  (7, 1, .iconst 0, [0, 0]),
  (8, 2, .istore 4, []),
  (10, 2, .iload 4, []),
  (12, 2, .bipush 16, [16, 0]),
  (14, 3, .if_icmp .ge (69), [45]),
  (17, 1, .iload_n 1, []),
  (18, 2, .bipush 40, [40, 0]),
  (20, 1, .imul, []),
  (21, 2, .iload 4, []),
  (23, 1, .iconst 4, [4, 0]),
  (24, 1, .imul, []),
  (25, 1, .iadd, []),
  (26, 1, .iload_n 3, []),
  (27, 1, .iadd, []),
  (28, 2, .istore 5, []),
  (30, 2, .iload 4, []),
  (32, 2, .bipush 10, [10, 0]),
  (34, 3, .if_icmp .lt (7), [25]),
  (37, 1, .iconst 1, [1, 0]),
  (38, 3, .goto (4), [26]),
  (41, 1, .iconst 0, [0, 0]),
  (42, 2, .istore 6, []),
  (44, 1, .aload_n 0, []),
  (45, 3, .getfield 43, [6, 6, 2, 0, 228]),
  (48, 2, .iload 4, []),
  (50, 2, .iload 6, []),
  (52, 3, .ifCond .ne (19), [40]),
  (55, 2, .iload 5, []),
  (57, 1, .iload_n 2, []),
  (58, 3, .if_icmp .ge (13), [40]),
  (61, 1, .aload_n 0, []),
  (62, 3, .getfield 9, [6, 0, 2, 0, 222]),
  (65, 2, .iload 5, []),
  (67, 1, .iaload, []),
  (68, 3, .goto (4), [41]),
  (71, 1, .iconst 0, [0, 0]),
  (72, 2, .iload 6, []),
  (74, 3, .invokevirtual 156, [12, 3, 4, 0, 271, 272, 273, 43]),
  (77, 3, .iinc 4 (1), [1, 0]),
  (80, 3, .goto (-70), [7]),
  (83, 1, .aload_n 0, []),
  (84, 3, .getfield 43, [6, 6, 2, 0, 228]),
  (87, 3, .invokevirtual 160, [95, 0, 4, 0, 275, 276, 277, 43]),
  (90, 1, .pop, []),
  (91, 1, .iconst 0, [0, 0]),
  (92, 2, .istore 4, []),
  (94, 2, .iload 4, []),
  (96, 2, .bipush 16, [16, 0]),
  (98, 3, .if_icmp .ge (30), [69]),
  (101, 1, .aload_n 0, []),
  (102, 3, .getfield 47, [6, 7, 2, 0, 229]),
  (105, 2, .iload 4, []),
  (107, 1, .iconst 4, [4, 0]),
  (108, 1, .imul, []),
  (109, 1, .iload_n 3, []),
  (110, 1, .iadd, []),
  (111, 1, .aload_n 0, []),
  (112, 3, .getfield 43, [6, 6, 2, 0, 228]),
  (115, 3, .getfield 163, [4, 1, 2, 1, 6]),
  (118, 2, .iload 4, []),
  (120, 1, .iaload, []),
  (121, 1, .iastore, []),
  (122, 3, .iinc 4 (1), [1, 0]),
  (125, 3, .goto (-31), [51]),
  (128, 3, .iinc 3 (1), [1, 0]),
  (131, 3, .goto (-129), [2]),
  (134, 1, .return_, [])]
theorem po_Arc_fillBlock : ma_ok me_Arc_fillBlock pr_Arc_fillBlock := ma_ok_of (by decide +kernel)
theorem pa_Arc_fillBlock_0 : pr_Arc_fillBlock[0]? = some (0, 1, .iconst 0, [0, 0]) := rfl
theorem pa_Arc_fillBlock_1 : pr_Arc_fillBlock[1]? = some (1, 1, .istore_n 3, []) := rfl
theorem pa_Arc_fillBlock_2 : pr_Arc_fillBlock[2]? = some (2, 1, .iload_n 3, []) := rfl
theorem pa_Arc_fillBlock_3 : pr_Arc_fillBlock[3]? = some (3, 1, .iconst 4, [4, 0]) := rfl
theorem pa_Arc_fillBlock_4 : pr_Arc_fillBlock[4]? = some (4, 3, .if_icmp .ge (130), [71]) := rfl
theorem pa_Arc_fillBlock_5 : pr_Arc_fillBlock[5]? = some (7, 1, .iconst 0, [0, 0]) := rfl
theorem pa_Arc_fillBlock_6 : pr_Arc_fillBlock[6]? = some (8, 2, .istore 4, []) := rfl
theorem pa_Arc_fillBlock_7 : pr_Arc_fillBlock[7]? = some (10, 2, .iload 4, []) := rfl
theorem pa_Arc_fillBlock_8 : pr_Arc_fillBlock[8]? = some (12, 2, .bipush 16, [16, 0]) := rfl
theorem pa_Arc_fillBlock_9 : pr_Arc_fillBlock[9]? = some (14, 3, .if_icmp .ge (69), [45]) := rfl
theorem pa_Arc_fillBlock_10 : pr_Arc_fillBlock[10]? = some (17, 1, .iload_n 1, []) := rfl
theorem pa_Arc_fillBlock_11 : pr_Arc_fillBlock[11]? = some (18, 2, .bipush 40, [40, 0]) := rfl
theorem pa_Arc_fillBlock_12 : pr_Arc_fillBlock[12]? = some (20, 1, .imul, []) := rfl
theorem pa_Arc_fillBlock_13 : pr_Arc_fillBlock[13]? = some (21, 2, .iload 4, []) := rfl
theorem pa_Arc_fillBlock_14 : pr_Arc_fillBlock[14]? = some (23, 1, .iconst 4, [4, 0]) := rfl
theorem pa_Arc_fillBlock_15 : pr_Arc_fillBlock[15]? = some (24, 1, .imul, []) := rfl
theorem pa_Arc_fillBlock_16 : pr_Arc_fillBlock[16]? = some (25, 1, .iadd, []) := rfl
theorem pa_Arc_fillBlock_17 : pr_Arc_fillBlock[17]? = some (26, 1, .iload_n 3, []) := rfl
theorem pa_Arc_fillBlock_18 : pr_Arc_fillBlock[18]? = some (27, 1, .iadd, []) := rfl
theorem pa_Arc_fillBlock_19 : pr_Arc_fillBlock[19]? = some (28, 2, .istore 5, []) := rfl
theorem pa_Arc_fillBlock_20 : pr_Arc_fillBlock[20]? = some (30, 2, .iload 4, []) := rfl
theorem pa_Arc_fillBlock_21 : pr_Arc_fillBlock[21]? = some (32, 2, .bipush 10, [10, 0]) := rfl
theorem pa_Arc_fillBlock_22 : pr_Arc_fillBlock[22]? = some (34, 3, .if_icmp .lt (7), [25]) := rfl
theorem pa_Arc_fillBlock_23 : pr_Arc_fillBlock[23]? = some (37, 1, .iconst 1, [1, 0]) := rfl
theorem pa_Arc_fillBlock_24 : pr_Arc_fillBlock[24]? = some (38, 3, .goto (4), [26]) := rfl
theorem pa_Arc_fillBlock_25 : pr_Arc_fillBlock[25]? = some (41, 1, .iconst 0, [0, 0]) := rfl
theorem pa_Arc_fillBlock_26 : pr_Arc_fillBlock[26]? = some (42, 2, .istore 6, []) := rfl
theorem pa_Arc_fillBlock_27 : pr_Arc_fillBlock[27]? = some (44, 1, .aload_n 0, []) := rfl
theorem pa_Arc_fillBlock_28 : pr_Arc_fillBlock[28]? = some (45, 3, .getfield 43, [6, 6, 2, 0, 228]) := rfl
theorem pa_Arc_fillBlock_29 : pr_Arc_fillBlock[29]? = some (48, 2, .iload 4, []) := rfl
theorem pa_Arc_fillBlock_30 : pr_Arc_fillBlock[30]? = some (50, 2, .iload 6, []) := rfl
theorem pa_Arc_fillBlock_31 : pr_Arc_fillBlock[31]? = some (52, 3, .ifCond .ne (19), [40]) := rfl
theorem pa_Arc_fillBlock_32 : pr_Arc_fillBlock[32]? = some (55, 2, .iload 5, []) := rfl
theorem pa_Arc_fillBlock_33 : pr_Arc_fillBlock[33]? = some (57, 1, .iload_n 2, []) := rfl
theorem pa_Arc_fillBlock_34 : pr_Arc_fillBlock[34]? = some (58, 3, .if_icmp .ge (13), [40]) := rfl
theorem pa_Arc_fillBlock_35 : pr_Arc_fillBlock[35]? = some (61, 1, .aload_n 0, []) := rfl
theorem pa_Arc_fillBlock_36 : pr_Arc_fillBlock[36]? = some (62, 3, .getfield 9, [6, 0, 2, 0, 222]) := rfl
theorem pa_Arc_fillBlock_37 : pr_Arc_fillBlock[37]? = some (65, 2, .iload 5, []) := rfl
theorem pa_Arc_fillBlock_38 : pr_Arc_fillBlock[38]? = some (67, 1, .iaload, []) := rfl
theorem pa_Arc_fillBlock_39 : pr_Arc_fillBlock[39]? = some (68, 3, .goto (4), [41]) := rfl
theorem pa_Arc_fillBlock_40 : pr_Arc_fillBlock[40]? = some (71, 1, .iconst 0, [0, 0]) := rfl
theorem pa_Arc_fillBlock_41 : pr_Arc_fillBlock[41]? = some (72, 2, .iload 6, []) := rfl
theorem pa_Arc_fillBlock_42 : pr_Arc_fillBlock[42]? = some (74, 3, .invokevirtual 156, [12, 3, 4, 0, 271, 272, 273, 43]) := rfl
theorem pa_Arc_fillBlock_43 : pr_Arc_fillBlock[43]? = some (77, 3, .iinc 4 (1), [1, 0]) := rfl
theorem pa_Arc_fillBlock_44 : pr_Arc_fillBlock[44]? = some (80, 3, .goto (-70), [7]) := rfl
theorem pa_Arc_fillBlock_45 : pr_Arc_fillBlock[45]? = some (83, 1, .aload_n 0, []) := rfl
theorem pa_Arc_fillBlock_46 : pr_Arc_fillBlock[46]? = some (84, 3, .getfield 43, [6, 6, 2, 0, 228]) := rfl
theorem pa_Arc_fillBlock_47 : pr_Arc_fillBlock[47]? = some (87, 3, .invokevirtual 160, [95, 0, 4, 0, 275, 276, 277, 43]) := rfl
theorem pa_Arc_fillBlock_48 : pr_Arc_fillBlock[48]? = some (90, 1, .pop, []) := rfl
theorem pa_Arc_fillBlock_49 : pr_Arc_fillBlock[49]? = some (91, 1, .iconst 0, [0, 0]) := rfl
theorem pa_Arc_fillBlock_50 : pr_Arc_fillBlock[50]? = some (92, 2, .istore 4, []) := rfl
theorem pa_Arc_fillBlock_51 : pr_Arc_fillBlock[51]? = some (94, 2, .iload 4, []) := rfl
theorem pa_Arc_fillBlock_52 : pr_Arc_fillBlock[52]? = some (96, 2, .bipush 16, [16, 0]) := rfl
theorem pa_Arc_fillBlock_53 : pr_Arc_fillBlock[53]? = some (98, 3, .if_icmp .ge (30), [69]) := rfl
theorem pa_Arc_fillBlock_54 : pr_Arc_fillBlock[54]? = some (101, 1, .aload_n 0, []) := rfl
theorem pa_Arc_fillBlock_55 : pr_Arc_fillBlock[55]? = some (102, 3, .getfield 47, [6, 7, 2, 0, 229]) := rfl
theorem pa_Arc_fillBlock_56 : pr_Arc_fillBlock[56]? = some (105, 2, .iload 4, []) := rfl
theorem pa_Arc_fillBlock_57 : pr_Arc_fillBlock[57]? = some (107, 1, .iconst 4, [4, 0]) := rfl
theorem pa_Arc_fillBlock_58 : pr_Arc_fillBlock[58]? = some (108, 1, .imul, []) := rfl
theorem pa_Arc_fillBlock_59 : pr_Arc_fillBlock[59]? = some (109, 1, .iload_n 3, []) := rfl
theorem pa_Arc_fillBlock_60 : pr_Arc_fillBlock[60]? = some (110, 1, .iadd, []) := rfl
theorem pa_Arc_fillBlock_61 : pr_Arc_fillBlock[61]? = some (111, 1, .aload_n 0, []) := rfl
theorem pa_Arc_fillBlock_62 : pr_Arc_fillBlock[62]? = some (112, 3, .getfield 43, [6, 6, 2, 0, 228]) := rfl
theorem pa_Arc_fillBlock_63 : pr_Arc_fillBlock[63]? = some (115, 3, .getfield 163, [4, 1, 2, 1, 6]) := rfl
theorem pa_Arc_fillBlock_64 : pr_Arc_fillBlock[64]? = some (118, 2, .iload 4, []) := rfl
theorem pa_Arc_fillBlock_65 : pr_Arc_fillBlock[65]? = some (120, 1, .iaload, []) := rfl
theorem pa_Arc_fillBlock_66 : pr_Arc_fillBlock[66]? = some (121, 1, .iastore, []) := rfl
theorem pa_Arc_fillBlock_67 : pr_Arc_fillBlock[67]? = some (122, 3, .iinc 4 (1), [1, 0]) := rfl
theorem pa_Arc_fillBlock_68 : pr_Arc_fillBlock[68]? = some (125, 3, .goto (-31), [51]) := rfl
theorem pa_Arc_fillBlock_69 : pr_Arc_fillBlock[69]? = some (128, 3, .iinc 3 (1), [1, 0]) := rfl
theorem pa_Arc_fillBlock_70 : pr_Arc_fillBlock[70]? = some (131, 3, .goto (-129), [2]) := rfl
theorem pa_Arc_fillBlock_71 : pr_Arc_fillBlock[71]? = some (134, 1, .return_, []) := rfl
def pa_Arc_fillBlock := And.intro pa_Arc_fillBlock_0 (And.intro pa_Arc_fillBlock_1 (And.intro pa_Arc_fillBlock_2 (And.intro pa_Arc_fillBlock_3 (And.intro pa_Arc_fillBlock_4 (And.intro pa_Arc_fillBlock_5 (And.intro pa_Arc_fillBlock_6 (And.intro pa_Arc_fillBlock_7 (And.intro pa_Arc_fillBlock_8 (And.intro pa_Arc_fillBlock_9 (And.intro pa_Arc_fillBlock_10 (And.intro pa_Arc_fillBlock_11 (And.intro pa_Arc_fillBlock_12 (And.intro pa_Arc_fillBlock_13 (And.intro pa_Arc_fillBlock_14 (And.intro pa_Arc_fillBlock_15 (And.intro pa_Arc_fillBlock_16 (And.intro pa_Arc_fillBlock_17 (And.intro pa_Arc_fillBlock_18 (And.intro pa_Arc_fillBlock_19 (And.intro pa_Arc_fillBlock_20 (And.intro pa_Arc_fillBlock_21 (And.intro pa_Arc_fillBlock_22 (And.intro pa_Arc_fillBlock_23 (And.intro pa_Arc_fillBlock_24 (And.intro pa_Arc_fillBlock_25 (And.intro pa_Arc_fillBlock_26 (And.intro pa_Arc_fillBlock_27 (And.intro pa_Arc_fillBlock_28 (And.intro pa_Arc_fillBlock_29 (And.intro pa_Arc_fillBlock_30 (And.intro pa_Arc_fillBlock_31 (And.intro pa_Arc_fillBlock_32 (And.intro pa_Arc_fillBlock_33 (And.intro pa_Arc_fillBlock_34 (And.intro pa_Arc_fillBlock_35 (And.intro pa_Arc_fillBlock_36 (And.intro pa_Arc_fillBlock_37 (And.intro pa_Arc_fillBlock_38 (And.intro pa_Arc_fillBlock_39 (And.intro pa_Arc_fillBlock_40 (And.intro pa_Arc_fillBlock_41 (And.intro pa_Arc_fillBlock_42 (And.intro pa_Arc_fillBlock_43 (And.intro pa_Arc_fillBlock_44 (And.intro pa_Arc_fillBlock_45 (And.intro pa_Arc_fillBlock_46 (And.intro pa_Arc_fillBlock_47 (And.intro pa_Arc_fillBlock_48 (And.intro pa_Arc_fillBlock_49 (And.intro pa_Arc_fillBlock_50 (And.intro pa_Arc_fillBlock_51 (And.intro pa_Arc_fillBlock_52 (And.intro pa_Arc_fillBlock_53 (And.intro pa_Arc_fillBlock_54 (And.intro pa_Arc_fillBlock_55 (And.intro pa_Arc_fillBlock_56 (And.intro pa_Arc_fillBlock_57 (And.intro pa_Arc_fillBlock_58 (And.intro pa_Arc_fillBlock_59 (And.intro pa_Arc_fillBlock_60 (And.intro pa_Arc_fillBlock_61 (And.intro pa_Arc_fillBlock_62 (And.intro pa_Arc_fillBlock_63 (And.intro pa_Arc_fillBlock_64 (And.intro pa_Arc_fillBlock_65 (And.intro pa_Arc_fillBlock_66 (And.intro pa_Arc_fillBlock_67 (And.intro pa_Arc_fillBlock_68 (And.intro pa_Arc_fillBlock_69 (And.intro pa_Arc_fillBlock_70 (pa_Arc_fillBlock_71)))))))))))))))))))))))))))))))))))))))))))))))))))))))))))))))))))))))
def pr_Mod_decode : List ma_E := [(0, 1, .aload_n 0, []),
  (1, 1, .iconst 0, [0, 0]),
  (2, 3, .putfield 66, [7, 0, 0, 0, 620]),
  (5, 1, .iload_n 1, []),
  (6, 1, .iconst 1, [1, 0]),
  (7, 3, .sipush 160, [160, 0]),
  (10, 3, .invokestatic 74, [29, 3, 0, 700, 701, 47]),
  (13, 3, .ifCond .ne (5), [10]),
  (16, 1, .iconst (-1), [1, 1]),
  (17, 1, .ireturn, [0]),
  (18, 1, .iload_n 1, []),
  (19, 2, .bipush 39, [39, 0]),
  (21, 1, .iadd, []),
  (22, 2, .bipush 40, [40, 0]),
  (24, 1, .idiv, []),
  (25, 1, .istore_n 2, []),
  (26, 1, .aload_n 0, []),
  (27, 1, .iload_n 1, []),
  (28, 3, .putfield 121, [7, 7, 0, 0, 627]),
  (31, 1, .aload_n 0, []),
  (32, 1, .iconst 0, [0, 0]),
  (33, 3, .putfield 124, [7, 8, 0, 0, 628]),
  (36, 1, .aload_n 0, []),
  (37, 1, .iconst 0, [0, 0]),
  (38, 3, .putfield 127, [7, 9, 0, 0, 629]),
  (41, 1, .iconst 0, [0, 0]),
  (42, 1, .istore_n 3, []),
  (43, 1, .iload_n 3, []),
  (44, 2, .bipush 64, [64, 0]),
  (46, 3, .if_icmp .ge (16), [37]),
  (49, 1, .aload_n 0, []),
  (50, 3, .getfield 38, [7, 15, 2, 0, 635]),
  (53, 1, .iload_n 3, []),
  (54, 1, .iconst 0, [0, 0]),
  (55, 1, .iastore, []),
  (56, 3, .iinc 3 (1), [1, 0]),
  (59, 3, .goto (-16), [27]),
  (62, 1, .iconst 0, [0, 0]),
  (63, 1, .istore_n 3, []),
  (64, 1, .iload_n 3, []),
  (65, 1, .aload_n 0, []),
  (66, 3, .getfield 97, [7, 4, 0, 0, 624]),
  (69, 3, .if_icmp .ge (199), [152]),
  (72, 1, .iconst 0, [0, 0]),
  (73, 2, .istore 4, []),
  (75, 2, .iload 4, []),
  (77, 2, .bipush 60, [60, 0]),
  (79, 3, .if_icmp .ge (28), [62]),
  (82, 1, .aload_n 0, []),
  (83, 3, .getfield 35, [7, 14, 2, 0, 634]),
  (86, 2, .iload 4, []),
  (88, 1, .aload_n 0, []),
  (89, 3, .getfield 17, [7, 5, 2, 0, 625]),
  (92, 2, .bipush 60, [60, 0]),
  (94, 1, .iload_n 3, []),
  (95, 1, .imul, []),
  (96, 2, .iload 4, []),
  (98, 1, .iadd, []),
  (99, 1, .baload, [0]),
  (100, 1, .iastore, []),
  (101, 3, .iinc 4 (1), [1, 0]),
  (104, 3, .goto (-29), [45]),
  (107, 1, .aload_n 0, []),
  (108, 3, .getfield 20, [7, 6, 2, 0, 626]),
  (111, 1, .iload_n 3, []),
  (112, 1, .iaload, []),
  (113, 2, .bipush 44, [44, 0]),
  (115, 2, .bipush 46, [46, 0]),
  (117, 3, .invokestatic 74, [29, 3, 0, 700, 701, 47]),
  (120, 3, .ifCond .eq (24), [81]),
  (123, 1, .aload_n 0, []),
  (124, 1, .aload_n 0, []),
  (125, 3, .getfield 20, [7, 6, 2, 0, 626]),
  (128, 1, .iload_n 3, []),
  (129, 1, .iaload, []),
  (130, 3, .invokevirtual 130, [66, 1, 7, 0, 769, 771, 33, 47]),
  (133, 3, .ifCond .eq (11), [81]),
  (136, 1, .aload_n 0, []),
  (137, 1, .iload_n 2, []),
  (138, 3, .invokevirtual 133, [73, 1, 7, 0, 777, 779, 35, 47]),
  (141, 3, .goto (4), [82]),
  (144, 1, .iconst (-1), [1, 1]),
  (145, 2, .istore 4, []),
  (147, 2, .iload 4, []),
  (149, 3, .ifCond .ge (16), [92]),
  (152, 1, .aload_n 0, []),
  (153, 1, .dup, []),
  (154, 3, .getfield 127, [7, 9, 0, 0, 629]),
  (157, 1, .iconst 1, [1, 0]),
  (158, 1, .iadd, []),
  (159, 3, .putfield 127, [7, 9, 0, 0, 629]),
  (162, 3, .goto (100), [150]),
  (165, 1, .aload_n 0, []),
  (166, 3, .getfield 20, [7, 6, 2, 0, 626]),
  (169, 1, .iload_n 3, []),
  (170, 1, .iaload, []),
  (171, 2, .bipush 45, [45, 0]),
  (173, 3, .if_icmp .eq (13), [104]),
  (176, 1, .aload_n 0, []),
  (177, 1, .dup, []),
  (178, 3, .getfield 124, [7, 8, 0, 0, 628]),
  (181, 1, .iconst 1, [1, 0]),
  (182, 1, .iadd, []),
  (183, 3, .putfield 124, [7, 8, 0, 0, 628]),
  (186, 1, .aload_n 0, []),
  (187, 3, .getfield 38, [7, 15, 2, 0, 635]),
  (190, 2, .iload 4, []),
  (192, 1, .dup2, []),
  (193, 1, .iaload, []),
  (194, 1, .iconst 1, [1, 0]),
  (195, 1, .iadd, []),
  (196, 1, .iastore, []),
  (197, 1, .iconst 0, [0, 0]),
  (198, 2, .istore 5, []),
  (200, 2, .iload 5, []),
  (202, 1, .iconst 4, [4, 0]),
  (203, 3, .if_icmp .ge (59), [150]),
  (206, 1, .aload_n 0, []),
  (207, 3, .getfield 41, [7, 16, 2, 0, 636]),
  (210, 1, .iconst 4, [4, 0]),
  (211, 2, .iload 4, []),
  (213, 1, .imul, []),
  (214, 2, .iload 5, []),
  (216, 1, .iadd, []),
  (217, 2, .iload 5, []),
  (219, 1, .iconst 2, [2, 0]),
  (220, 1, .irem, []),
  (221, 3, .ifCond .ne (20), [138]),
  (224, 1, .aload_n 0, []),
  (225, 1, .iconst 1, [1, 0]),
  (226, 2, .iload 5, []),
  (228, 1, .iconst 2, [2, 0]),
  (229, 1, .idiv, []),
  (230, 1, .iadd, []),
  (231, 3, .invokevirtual 117, [27, 1, 7, 0, 781, 783, 36, 47]),
  (234, 3, .sipush 256, [256, 0]),
  (237, 1, .idiv, []),
  (238, 3, .goto (17), [147]),
  (241, 1, .aload_n 0, []),
  (242, 1, .iconst 1, [1, 0]),
  (243, 2, .iload 5, []),
  (245, 1, .iconst 2, [2, 0]),
  (246, 1, .idiv, []),
  (247, 1, .iadd, []),
  (248, 3, .invokevirtual 117, [27, 1, 7, 0, 781, 783, 36, 47]),
  (251, 3, .sipush 256, [256, 0]),
  (254, 1, .irem, []),
  (255, 1, .iastore, []),
  (256, 3, .iinc 5 (1), [1, 0]),
  (259, 3, .goto (-59), [114]),
  (262, 3, .iinc 3 (1), [1, 0]),
  (265, 3, .goto (-201), [39]),
  (268, 1, .iconst 1, [1, 0]),
  (269, 1, .istore_n 3, []),
  (270, 1, .iconst 0, [0, 0]),
  (271, 2, .istore 4, []),
  (273, 2, .iload 4, []),
  (275, 2, .bipush 64, [64, 0]),
  (277, 3, .if_icmp .ge (40), [178]),
  (280, 1, .aload_n 0, []),
  (281, 1, .dup, []),
  (282, 3, .getfield 127, [7, 9, 0, 0, 629]),
  (285, 1, .aload_n 0, []),
  (286, 3, .getfield 38, [7, 15, 2, 0, 635]),
  (289, 2, .iload 4, []),
  (291, 1, .iaload, []),
  (292, 1, .iconst 1, [1, 0]),
  (293, 3, .if_icmp .le (13), [173]),
  (296, 1, .aload_n 0, []),
  (297, 3, .getfield 38, [7, 15, 2, 0, 635]),
  (300, 2, .iload 4, []),
  (302, 1, .iaload, []),
  (303, 3, .goto (4), [174]),
  (306, 1, .iconst 0, [0, 0]),
  (307, 1, .iadd, []),
  (308, 3, .putfield 127, [7, 9, 0, 0, 629]),
  (311, 3, .iinc 4 (1), [1, 0]),
  (314, 3, .goto (-41), [156]),
  (317, 1, .iconst 0, [0, 0]),
  (318, 2, .istore 4, []),
  (320, 2, .iload 4, []),
  (322, 1, .iload_n 2, []),
  (323, 3, .if_icmp .ge (20), [191]),
  (326, 1, .aload_n 0, []),
  (327, 2, .iload 4, []),
  (329, 3, .invokevirtual 136, [98, 1, 7, 0, 786, 788, 37, 47]),
  (332, 3, .ifCond .ne (5), [189]),
  (335, 1, .iconst 0, [0, 0]),
  (336, 1, .istore_n 3, []),
  (337, 3, .iinc 4 (1), [1, 0]),
  (340, 3, .goto (-20), [180]),
  (343, 1, .iload_n 3, []),
  (344, 1, .ireturn, [0])]
theorem po_Mod_decode : ma_ok me_Mod_decode pr_Mod_decode := ma_ok_of (by decide +kernel)
theorem pa_Mod_decode_0 : pr_Mod_decode[0]? = some (0, 1, .aload_n 0, []) := rfl
theorem pa_Mod_decode_1 : pr_Mod_decode[1]? = some (1, 1, .iconst 0, [0, 0]) := rfl
theorem pa_Mod_decode_2 : pr_Mod_decode[2]? = some (2, 3, .putfield 66, [7, 0, 0, 0, 620]) := rfl
theorem pa_Mod_decode_3 : pr_Mod_decode[3]? = some (5, 1, .iload_n 1, []) := rfl
theorem pa_Mod_decode_4 : pr_Mod_decode[4]? = some (6, 1, .iconst 1, [1, 0]) := rfl
theorem pa_Mod_decode_5 : pr_Mod_decode[5]? = some (7, 3, .sipush 160, [160, 0]) := rfl
theorem pa_Mod_decode_6 : pr_Mod_decode[6]? = some (10, 3, .invokestatic 74, [29, 3, 0, 700, 701, 47]) := rfl
theorem pa_Mod_decode_7 : pr_Mod_decode[7]? = some (13, 3, .ifCond .ne (5), [10]) := rfl
theorem pa_Mod_decode_8 : pr_Mod_decode[8]? = some (16, 1, .iconst (-1), [1, 1]) := rfl
theorem pa_Mod_decode_9 : pr_Mod_decode[9]? = some (17, 1, .ireturn, [0]) := rfl
theorem pa_Mod_decode_10 : pr_Mod_decode[10]? = some (18, 1, .iload_n 1, []) := rfl
theorem pa_Mod_decode_11 : pr_Mod_decode[11]? = some (19, 2, .bipush 39, [39, 0]) := rfl
theorem pa_Mod_decode_12 : pr_Mod_decode[12]? = some (21, 1, .iadd, []) := rfl
theorem pa_Mod_decode_13 : pr_Mod_decode[13]? = some (22, 2, .bipush 40, [40, 0]) := rfl
theorem pa_Mod_decode_14 : pr_Mod_decode[14]? = some (24, 1, .idiv, []) := rfl
theorem pa_Mod_decode_15 : pr_Mod_decode[15]? = some (25, 1, .istore_n 2, []) := rfl
theorem pa_Mod_decode_16 : pr_Mod_decode[16]? = some (26, 1, .aload_n 0, []) := rfl
theorem pa_Mod_decode_17 : pr_Mod_decode[17]? = some (27, 1, .iload_n 1, []) := rfl
theorem pa_Mod_decode_18 : pr_Mod_decode[18]? = some (28, 3, .putfield 121, [7, 7, 0, 0, 627]) := rfl
theorem pa_Mod_decode_19 : pr_Mod_decode[19]? = some (31, 1, .aload_n 0, []) := rfl
theorem pa_Mod_decode_20 : pr_Mod_decode[20]? = some (32, 1, .iconst 0, [0, 0]) := rfl
theorem pa_Mod_decode_21 : pr_Mod_decode[21]? = some (33, 3, .putfield 124, [7, 8, 0, 0, 628]) := rfl
theorem pa_Mod_decode_22 : pr_Mod_decode[22]? = some (36, 1, .aload_n 0, []) := rfl
theorem pa_Mod_decode_23 : pr_Mod_decode[23]? = some (37, 1, .iconst 0, [0, 0]) := rfl
theorem pa_Mod_decode_24 : pr_Mod_decode[24]? = some (38, 3, .putfield 127, [7, 9, 0, 0, 629]) := rfl
theorem pa_Mod_decode_25 : pr_Mod_decode[25]? = some (41, 1, .iconst 0, [0, 0]) := rfl
theorem pa_Mod_decode_26 : pr_Mod_decode[26]? = some (42, 1, .istore_n 3, []) := rfl
theorem pa_Mod_decode_27 : pr_Mod_decode[27]? = some (43, 1, .iload_n 3, []) := rfl
theorem pa_Mod_decode_28 : pr_Mod_decode[28]? = some (44, 2, .bipush 64, [64, 0]) := rfl
theorem pa_Mod_decode_29 : pr_Mod_decode[29]? = some (46, 3, .if_icmp .ge (16), [37]) := rfl
theorem pa_Mod_decode_30 : pr_Mod_decode[30]? = some (49, 1, .aload_n 0, []) := rfl
theorem pa_Mod_decode_31 : pr_Mod_decode[31]? = some (50, 3, .getfield 38, [7, 15, 2, 0, 635]) := rfl
theorem pa_Mod_decode_32 : pr_Mod_decode[32]? = some (53, 1, .iload_n 3, []) := rfl
theorem pa_Mod_decode_33 : pr_Mod_decode[33]? = some (54, 1, .iconst 0, [0, 0]) := rfl
theorem pa_Mod_decode_34 : pr_Mod_decode[34]? = some (55, 1, .iastore, []) := rfl
theorem pa_Mod_decode_35 : pr_Mod_decode[35]? = some (56, 3, .iinc 3 (1), [1, 0]) := rfl
theorem pa_Mod_decode_36 : pr_Mod_decode[36]? = some (59, 3, .goto (-16), [27]) := rfl
theorem pa_Mod_decode_37 : pr_Mod_decode[37]? = some (62, 1, .iconst 0, [0, 0]) := rfl
theorem pa_Mod_decode_38 : pr_Mod_decode[38]? = some (63, 1, .istore_n 3, []) := rfl
theorem pa_Mod_decode_39 : pr_Mod_decode[39]? = some (64, 1, .iload_n 3, []) := rfl
theorem pa_Mod_decode_40 : pr_Mod_decode[40]? = some (65, 1, .aload_n 0, []) := rfl
theorem pa_Mod_decode_41 : pr_Mod_decode[41]? = some (66, 3, .getfield 97, [7, 4, 0, 0, 624]) := rfl
theorem pa_Mod_decode_42 : pr_Mod_decode[42]? = some (69, 3, .if_icmp .ge (199), [152]) := rfl
theorem pa_Mod_decode_43 : pr_Mod_decode[43]? = some (72, 1, .iconst 0, [0, 0]) := rfl
theorem pa_Mod_decode_44 : pr_Mod_decode[44]? = some (73, 2, .istore 4, []) := rfl
theorem pa_Mod_decode_45 : pr_Mod_decode[45]? = some (75, 2, .iload 4, []) := rfl
theorem pa_Mod_decode_46 : pr_Mod_decode[46]? = some (77, 2, .bipush 60, [60, 0]) := rfl
theorem pa_Mod_decode_47 : pr_Mod_decode[47]? = some (79, 3, .if_icmp .ge (28), [62]) := rfl
theorem pa_Mod_decode_48 : pr_Mod_decode[48]? = some (82, 1, .aload_n 0, []) := rfl
theorem pa_Mod_decode_49 : pr_Mod_decode[49]? = some (83, 3, .getfield 35, [7, 14, 2, 0, 634]) := rfl
theorem pa_Mod_decode_50 : pr_Mod_decode[50]? = some (86, 2, .iload 4, []) := rfl
theorem pa_Mod_decode_51 : pr_Mod_decode[51]? = some (88, 1, .aload_n 0, []) := rfl
theorem pa_Mod_decode_52 : pr_Mod_decode[52]? = some (89, 3, .getfield 17, [7, 5, 2, 0, 625]) := rfl
theorem pa_Mod_decode_53 : pr_Mod_decode[53]? = some (92, 2, .bipush 60, [60, 0]) := rfl
theorem pa_Mod_decode_54 : pr_Mod_decode[54]? = some (94, 1, .iload_n 3, []) := rfl
theorem pa_Mod_decode_55 : pr_Mod_decode[55]? = some (95, 1, .imul, []) := rfl
theorem pa_Mod_decode_56 : pr_Mod_decode[56]? = some (96, 2, .iload 4, []) := rfl
theorem pa_Mod_decode_57 : pr_Mod_decode[57]? = some (98, 1, .iadd, []) := rfl
theorem pa_Mod_decode_58 : pr_Mod_decode[58]? = some (99, 1, .baload, [0]) := rfl
theorem pa_Mod_decode_59 : pr_Mod_decode[59]? = some (100, 1, .iastore, []) := rfl
theorem pa_Mod_decode_60 : pr_Mod_decode[60]? = some (101, 3, .iinc 4 (1), [1, 0]) := rfl
theorem pa_Mod_decode_61 : pr_Mod_decode[61]? = some (104, 3, .goto (-29), [45]) := rfl
theorem pa_Mod_decode_62 : pr_Mod_decode[62]? = some (107, 1, .aload_n 0, []) := rfl
theorem pa_Mod_decode_63 : pr_Mod_decode[63]? = some (108, 3, .getfield 20, [7, 6, 2, 0, 626]) := rfl
theorem pa_Mod_decode_64 : pr_Mod_decode[64]? = some (111, 1, .iload_n 3, []) := rfl
theorem pa_Mod_decode_65 : pr_Mod_decode[65]? = some (112, 1, .iaload, []) := rfl
theorem pa_Mod_decode_66 : pr_Mod_decode[66]? = some (113, 2, .bipush 44, [44, 0]) := rfl
theorem pa_Mod_decode_67 : pr_Mod_decode[67]? = some (115, 2, .bipush 46, [46, 0]) := rfl
theorem pa_Mod_decode_68 : pr_Mod_decode[68]? = some (117, 3, .invokestatic 74, [29, 3, 0, 700, 701, 47]) := rfl
theorem pa_Mod_decode_69 : pr_Mod_decode[69]? = some (120, 3, .ifCond .eq (24), [81]) := rfl
theorem pa_Mod_decode_70 : pr_Mod_decode[70]? = some (123, 1, .aload_n 0, []) := rfl
theorem pa_Mod_decode_71 : pr_Mod_decode[71]? = some (124, 1, .aload_n 0, []) := rfl
theorem pa_Mod_decode_72 : pr_Mod_decode[72]? = some (125, 3, .getfield 20, [7, 6, 2, 0, 626]) := rfl
theorem pa_Mod_decode_73 : pr_Mod_decode[73]? = some (128, 1, .iload_n 3, []) := rfl
theorem pa_Mod_decode_74 : pr_Mod_decode[74]? = some (129, 1, .iaload, []) := rfl
theorem pa_Mod_decode_75 : pr_Mod_decode[75]? = some (130, 3, .invokevirtual 130, [66, 1, 7, 0, 769, 771, 33, 47]) := rfl
theorem pa_Mod_decode_76 : pr_Mod_decode[76]? = some (133, 3, .ifCond .eq (11), [81]) := rfl
theorem pa_Mod_decode_77 : pr_Mod_decode[77]? = some (136, 1, .aload_n 0, []) := rfl
theorem pa_Mod_decode_78 : pr_Mod_decode[78]? = some (137, 1, .iload_n 2, []) := rfl
theorem pa_Mod_decode_79 : pr_Mod_decode[79]? = some (138, 3, .invokevirtual 133, [73, 1, 7, 0, 777, 779, 35, 47]) := rfl
theorem pa_Mod_decode_80 : pr_Mod_decode[80]? = some (141, 3, .goto (4), [82]) := rfl
theorem pa_Mod_decode_81 : pr_Mod_decode[81]? = some (144, 1, .iconst (-1), [1, 1]) := rfl
theorem pa_Mod_decode_82 : pr_Mod_decode[82]? = some (145, 2, .istore 4, []) := rfl
theorem pa_Mod_decode_83 : pr_Mod_decode[83]? = some (147, 2, .iload 4, []) := rfl
theorem pa_Mod_decode_84 : pr_Mod_decode[84]? = some (149, 3, .ifCond .ge (16), [92]) := rfl
theorem pa_Mod_decode_85 : pr_Mod_decode[85]? = some (152, 1, .aload_n 0, []) := rfl
theorem pa_Mod_decode_86 : pr_Mod_decode[86]? = some (153, 1, .dup, []) := rfl
theorem pa_Mod_decode_87 : pr_Mod_decode[87]? = some (154, 3, .getfield 127, [7, 9, 0, 0, 629]) := rfl
theorem pa_Mod_decode_88 : pr_Mod_decode[88]? = some (157, 1, .iconst 1, [1, 0]) := rfl
theorem pa_Mod_decode_89 : pr_Mod_decode[89]? = some (158, 1, .iadd, []) := rfl
theorem pa_Mod_decode_90 : pr_Mod_decode[90]? = some (159, 3, .putfield 127, [7, 9, 0, 0, 629]) := rfl
theorem pa_Mod_decode_91 : pr_Mod_decode[91]? = some (162, 3, .goto (100), [150]) := rfl
theorem pa_Mod_decode_92 : pr_Mod_decode[92]? = some (165, 1, .aload_n 0, []) := rfl
theorem pa_Mod_decode_93 : pr_Mod_decode[93]? = some (166, 3, .getfield 20, [7, 6, 2, 0, 626]) := rfl
theorem pa_Mod_decode_94 : pr_Mod_decode[94]? = some (169, 1, .iload_n 3, []) := rfl
theorem pa_Mod_decode_95 : pr_Mod_decode[95]? = some (170, 1, .iaload, []) := rfl
theorem pa_Mod_decode_96 : pr_Mod_decode[96]? = some (171, 2, .bipush 45, [45, 0]) := rfl
theorem pa_Mod_decode_97 : pr_Mod_decode[97]? = some (173, 3, .if_icmp .eq (13), [104]) := rfl
theorem pa_Mod_decode_98 : pr_Mod_decode[98]? = some (176, 1, .aload_n 0, []) := rfl
theorem pa_Mod_decode_99 : pr_Mod_decode[99]? = some (177, 1, .dup, []) := rfl
theorem pa_Mod_decode_100 : pr_Mod_decode[100]? = some (178, 3, .getfield 124, [7, 8, 0, 0, 628]) := rfl
theorem pa_Mod_decode_101 : pr_Mod_decode[101]? = some (181, 1, .iconst 1, [1, 0]) := rfl
theorem pa_Mod_decode_102 : pr_Mod_decode[102]? = some (182, 1, .iadd, []) := rfl
theorem pa_Mod_decode_103 : pr_Mod_decode[103]? = some (183, 3, .putfield 124, [7, 8, 0, 0, 628]) := rfl
theorem pa_Mod_decode_104 : pr_Mod_decode[104]? = some (186, 1, .aload_n 0, []) := rfl
theorem pa_Mod_decode_105 : pr_Mod_decode[105]? = some (187, 3, .getfield 38, [7, 15, 2, 0, 635]) := rfl
theorem pa_Mod_decode_106 : pr_Mod_decode[106]? = some (190, 2, .iload 4, []) := rfl
theorem pa_Mod_decode_107 : pr_Mod_decode[107]? = some (192, 1, .dup2, []) := rfl
theorem pa_Mod_decode_108 : pr_Mod_decode[108]? = some (193, 1, .iaload, []) := rfl
theorem pa_Mod_decode_109 : pr_Mod_decode[109]? = some (194, 1, .iconst 1, [1, 0]) := rfl
theorem pa_Mod_decode_110 : pr_Mod_decode[110]? = some (195, 1, .iadd, []) := rfl
theorem pa_Mod_decode_111 : pr_Mod_decode[111]? = some (196, 1, .iastore, []) := rfl
theorem pa_Mod_decode_112 : pr_Mod_decode[112]? = some (197, 1, .iconst 0, [0, 0]) := rfl
theorem pa_Mod_decode_113 : pr_Mod_decode[113]? = some (198, 2, .istore 5, []) := rfl
theorem pa_Mod_decode_114 : pr_Mod_decode[114]? = some (200, 2, .iload 5, []) := rfl
theorem pa_Mod_decode_115 : pr_Mod_decode[115]? = some (202, 1, .iconst 4, [4, 0]) := rfl
theorem pa_Mod_decode_116 : pr_Mod_decode[116]? = some (203, 3, .if_icmp .ge (59), [150]) := rfl
theorem pa_Mod_decode_117 : pr_Mod_decode[117]? = some (206, 1, .aload_n 0, []) := rfl
theorem pa_Mod_decode_118 : pr_Mod_decode[118]? = some (207, 3, .getfield 41, [7, 16, 2, 0, 636]) := rfl
theorem pa_Mod_decode_119 : pr_Mod_decode[119]? = some (210, 1, .iconst 4, [4, 0]) := rfl
theorem pa_Mod_decode_120 : pr_Mod_decode[120]? = some (211, 2, .iload 4, []) := rfl
theorem pa_Mod_decode_121 : pr_Mod_decode[121]? = some (213, 1, .imul, []) := rfl
theorem pa_Mod_decode_122 : pr_Mod_decode[122]? = some (214, 2, .iload 5, []) := rfl
theorem pa_Mod_decode_123 : pr_Mod_decode[123]? = some (216, 1, .iadd, []) := rfl
theorem pa_Mod_decode_124 : pr_Mod_decode[124]? = some (217, 2, .iload 5, []) := rfl
theorem pa_Mod_decode_125 : pr_Mod_decode[125]? = some (219, 1, .iconst 2, [2, 0]) := rfl
theorem pa_Mod_decode_126 : pr_Mod_decode[126]? = some (220, 1, .irem, []) := rfl
theorem pa_Mod_decode_127 : pr_Mod_decode[127]? = some (221, 3, .ifCond .ne (20), [138]) := rfl
theorem pa_Mod_decode_128 : pr_Mod_decode[128]? = some (224, 1, .aload_n 0, []) := rfl
theorem pa_Mod_decode_129 : pr_Mod_decode[129]? = some (225, 1, .iconst 1, [1, 0]) := rfl
theorem pa_Mod_decode_130 : pr_Mod_decode[130]? = some (226, 2, .iload 5, []) := rfl
theorem pa_Mod_decode_131 : pr_Mod_decode[131]? = some (228, 1, .iconst 2, [2, 0]) := rfl
theorem pa_Mod_decode_132 : pr_Mod_decode[132]? = some (229, 1, .idiv, []) := rfl
theorem pa_Mod_decode_133 : pr_Mod_decode[133]? = some (230, 1, .iadd, []) := rfl
theorem pa_Mod_decode_134 : pr_Mod_decode[134]? = some (231, 3, .invokevirtual 117, [27, 1, 7, 0, 781, 783, 36, 47]) := rfl
theorem pa_Mod_decode_135 : pr_Mod_decode[135]? = some (234, 3, .sipush 256, [256, 0]) := rfl
theorem pa_Mod_decode_136 : pr_Mod_decode[136]? = some (237, 1, .idiv, []) := rfl
theorem pa_Mod_decode_137 : pr_Mod_decode[137]? = some (238, 3, .goto (17), [147]) := rfl
theorem pa_Mod_decode_138 : pr_Mod_decode[138]? = some (241, 1, .aload_n 0, []) := rfl
theorem pa_Mod_decode_139 : pr_Mod_decode[139]? = some (242, 1, .iconst 1, [1, 0]) := rfl
theorem pa_Mod_decode_140 : pr_Mod_decode[140]? = some (243, 2, .iload 5, []) := rfl
theorem pa_Mod_decode_141 : pr_Mod_decode[141]? = some (245, 1, .iconst 2, [2, 0]) := rfl
theorem pa_Mod_decode_142 : pr_Mod_decode[142]? = some (246, 1, .idiv, []) := rfl
theorem pa_Mod_decode_143 : pr_Mod_decode[143]? = some (247, 1, .iadd, []) := rfl
theorem pa_Mod_decode_144 : pr_Mod_decode[144]? = some (248, 3, .invokevirtual 117, [27, 1, 7, 0, 781, 783, 36, 47]) := rfl
theorem pa_Mod_decode_145 : pr_Mod_decode[145]? = some (251, 3, .sipush 256, [256, 0]) := rfl
theorem pa_Mod_decode_146 : pr_Mod_decode[146]? = some (254, 1, .irem, []) := rfl
theorem pa_Mod_decode_147 : pr_Mod_decode[147]? = some (255, 1, .iastore, []) := rfl
theorem pa_Mod_decode_148 : pr_Mod_decode[148]? = some (256, 3, .iinc 5 (1), [1, 0]) := rfl
theorem pa_Mod_decode_149 : pr_Mod_decode[149]? = some (259, 3, .goto (-59), [114]) := rfl
theorem pa_Mod_decode_150 : pr_Mod_decode[150]? = some (262, 3, .iinc 3 (1), [1, 0]) := rfl
theorem pa_Mod_decode_151 : pr_Mod_decode[151]? = some (265, 3, .goto (-201), [39]) := rfl
theorem pa_Mod_decode_152 : pr_Mod_decode[152]? = some (268, 1, .iconst 1, [1, 0]) := rfl
theorem pa_Mod_decode_153 : pr_Mod_decode[153]? = some (269, 1, .istore_n 3, []) := rfl
theorem pa_Mod_decode_154 : pr_Mod_decode[154]? = some (270, 1, .iconst 0, [0, 0]) := rfl
theorem pa_Mod_decode_155 : pr_Mod_decode[155]? = some (271, 2, .istore 4, []) := rfl
theorem pa_Mod_decode_156 : pr_Mod_decode[156]? = some (273, 2, .iload 4, []) := rfl
theorem pa_Mod_decode_157 : pr_Mod_decode[157]? = some (275, 2, .bipush 64, [64, 0]) := rfl
theorem pa_Mod_decode_158 : pr_Mod_decode[158]? = some (277, 3, .if_icmp .ge (40), [178]) := rfl
theorem pa_Mod_decode_159 : pr_Mod_decode[159]? = some (280, 1, .aload_n 0, []) := rfl
theorem pa_Mod_decode_160 : pr_Mod_decode[160]? = some (281, 1, .dup, []) := rfl
theorem pa_Mod_decode_161 : pr_Mod_decode[161]? = some (282, 3, .getfield 127, [7, 9, 0, 0, 629]) := rfl
theorem pa_Mod_decode_162 : pr_Mod_decode[162]? = some (285, 1, .aload_n 0, []) := rfl
theorem pa_Mod_decode_163 : pr_Mod_decode[163]? = some (286, 3, .getfield 38, [7, 15, 2, 0, 635]) := rfl
theorem pa_Mod_decode_164 : pr_Mod_decode[164]? = some (289, 2, .iload 4, []) := rfl
theorem pa_Mod_decode_165 : pr_Mod_decode[165]? = some (291, 1, .iaload, []) := rfl
theorem pa_Mod_decode_166 : pr_Mod_decode[166]? = some (292, 1, .iconst 1, [1, 0]) := rfl
theorem pa_Mod_decode_167 : pr_Mod_decode[167]? = some (293, 3, .if_icmp .le (13), [173]) := rfl
theorem pa_Mod_decode_168 : pr_Mod_decode[168]? = some (296, 1, .aload_n 0, []) := rfl
theorem pa_Mod_decode_169 : pr_Mod_decode[169]? = some (297, 3, .getfield 38, [7, 15, 2, 0, 635]) := rfl
theorem pa_Mod_decode_170 : pr_Mod_decode[170]? = some (300, 2, .iload 4, []) := rfl
theorem pa_Mod_decode_171 : pr_Mod_decode[171]? = some (302, 1, .iaload, []) := rfl
theorem pa_Mod_decode_172 : pr_Mod_decode[172]? = some (303, 3, .goto (4), [174]) := rfl
theorem pa_Mod_decode_173 : pr_Mod_decode[173]? = some (306, 1, .iconst 0, [0, 0]) := rfl
theorem pa_Mod_decode_174 : pr_Mod_decode[174]? = some (307, 1, .iadd, []) := rfl
theorem pa_Mod_decode_175 : pr_Mod_decode[175]? = some (308, 3, .putfield 127, [7, 9, 0, 0, 629]) := rfl
theorem pa_Mod_decode_176 : pr_Mod_decode[176]? = some (311, 3, .iinc 4 (1), [1, 0]) := rfl
theorem pa_Mod_decode_177 : pr_Mod_decode[177]? = some (314, 3, .goto (-41), [156]) := rfl
theorem pa_Mod_decode_178 : pr_Mod_decode[178]? = some (317, 1, .iconst 0, [0, 0]) := rfl
theorem pa_Mod_decode_179 : pr_Mod_decode[179]? = some (318, 2, .istore 4, []) := rfl
theorem pa_Mod_decode_180 : pr_Mod_decode[180]? = some (320, 2, .iload 4, []) := rfl
theorem pa_Mod_decode_181 : pr_Mod_decode[181]? = some (322, 1, .iload_n 2, []) := rfl
theorem pa_Mod_decode_182 : pr_Mod_decode[182]? = some (323, 3, .if_icmp .ge (20), [191]) := rfl
theorem pa_Mod_decode_183 : pr_Mod_decode[183]? = some (326, 1, .aload_n 0, []) := rfl
theorem pa_Mod_decode_184 : pr_Mod_decode[184]? = some (327, 2, .iload 4, []) := rfl
theorem pa_Mod_decode_185 : pr_Mod_decode[185]? = some (329, 3, .invokevirtual 136, [98, 1, 7, 0, 786, 788, 37, 47]) := rfl
theorem pa_Mod_decode_186 : pr_Mod_decode[186]? = some (332, 3, .ifCond .ne (5), [189]) := rfl
theorem pa_Mod_decode_187 : pr_Mod_decode[187]? = some (335, 1, .iconst 0, [0, 0]) := rfl
theorem pa_Mod_decode_188 : pr_Mod_decode[188]? = some (336, 1, .istore_n 3, []) := rfl
theorem pa_Mod_decode_189 : pr_Mod_decode[189]? = some (337, 3, .iinc 4 (1), [1, 0]) := rfl
theorem pa_Mod_decode_190 : pr_Mod_decode[190]? = some (340, 3, .goto (-20), [180]) := rfl
theorem pa_Mod_decode_191 : pr_Mod_decode[191]? = some (343, 1, .iload_n 3, []) := rfl
theorem pa_Mod_decode_192 : pr_Mod_decode[192]? = some (344, 1, .ireturn, [0]) := rfl
set_option maxRecDepth 30000 in
def pa_Mod_decode := And.intro pa_Mod_decode_0 (And.intro pa_Mod_decode_1 (And.intro pa_Mod_decode_2 (And.intro pa_Mod_decode_3 (And.intro pa_Mod_decode_4 (And.intro pa_Mod_decode_5 (And.intro pa_Mod_decode_6 (And.intro pa_Mod_decode_7 (And.intro pa_Mod_decode_8 (And.intro pa_Mod_decode_9 (And.intro pa_Mod_decode_10 (And.intro pa_Mod_decode_11 (And.intro pa_Mod_decode_12 (And.intro pa_Mod_decode_13 (And.intro pa_Mod_decode_14 (And.intro pa_Mod_decode_15 (And.intro pa_Mod_decode_16 (And.intro pa_Mod_decode_17 (And.intro pa_Mod_decode_18 (And.intro pa_Mod_decode_19 (And.intro pa_Mod_decode_20 (And.intro pa_Mod_decode_21 (And.intro pa_Mod_decode_22 (And.intro pa_Mod_decode_23 (And.intro pa_Mod_decode_24 (And.intro pa_Mod_decode_25 (And.intro pa_Mod_decode_26 (And.intro pa_Mod_decode_27 (And.intro pa_Mod_decode_28 (And.intro pa_Mod_decode_29 (And.intro pa_Mod_decode_30 (And.intro pa_Mod_decode_31 (And.intro pa_Mod_decode_32 (And.intro pa_Mod_decode_33 (And.intro pa_Mod_decode_34 (And.intro pa_Mod_decode_35 (And.intro pa_Mod_decode_36 (And.intro pa_Mod_decode_37 (And.intro pa_Mod_decode_38 (And.intro pa_Mod_decode_39 (And.intro pa_Mod_decode_40 (And.intro pa_Mod_decode_41 (And.intro pa_Mod_decode_42 (And.intro pa_Mod_decode_43 (And.intro pa_Mod_decode_44 (And.intro pa_Mod_decode_45 (And.intro pa_Mod_decode_46 (And.intro pa_Mod_decode_47 (And.intro pa_Mod_decode_48 (And.intro pa_Mod_decode_49 (And.intro pa_Mod_decode_50 (And.intro pa_Mod_decode_51 (And.intro pa_Mod_decode_52 (And.intro pa_Mod_decode_53 (And.intro pa_Mod_decode_54 (And.intro pa_Mod_decode_55 (And.intro pa_Mod_decode_56 (And.intro pa_Mod_decode_57 (And.intro pa_Mod_decode_58 (And.intro pa_Mod_decode_59 (And.intro pa_Mod_decode_60 (And.intro pa_Mod_decode_61 (And.intro pa_Mod_decode_62 (And.intro pa_Mod_decode_63 (And.intro pa_Mod_decode_64 (And.intro pa_Mod_decode_65 (And.intro pa_Mod_decode_66 (And.intro pa_Mod_decode_67 (And.intro pa_Mod_decode_68 (And.intro pa_Mod_decode_69 (And.intro pa_Mod_decode_70 (And.intro pa_Mod_decode_71 (And.intro pa_Mod_decode_72 (And.intro pa_Mod_decode_73 (And.intro pa_Mod_decode_74 (And.intro pa_Mod_decode_75 (And.intro pa_Mod_decode_76 (And.intro pa_Mod_decode_77 (And.intro pa_Mod_decode_78 (And.intro pa_Mod_decode_79 (And.intro pa_Mod_decode_80 (And.intro pa_Mod_decode_81 (And.intro pa_Mod_decode_82 (And.intro pa_Mod_decode_83 (And.intro pa_Mod_decode_84 (And.intro pa_Mod_decode_85 (And.intro pa_Mod_decode_86 (And.intro pa_Mod_decode_87 (And.intro pa_Mod_decode_88 (And.intro pa_Mod_decode_89 (And.intro pa_Mod_decode_90 (And.intro pa_Mod_decode_91 (And.intro pa_Mod_decode_92 (And.intro pa_Mod_decode_93 (And.intro pa_Mod_decode_94 (And.intro pa_Mod_decode_95 (And.intro pa_Mod_decode_96 (And.intro pa_Mod_decode_97 (And.intro pa_Mod_decode_98 (And.intro pa_Mod_decode_99 (And.intro pa_Mod_decode_100 (And.intro pa_Mod_decode_101 (And.intro pa_Mod_decode_102 (And.intro pa_Mod_decode_103 (And.intro pa_Mod_decode_104 (And.intro pa_Mod_decode_105 (And.intro pa_Mod_decode_106 (And.intro pa_Mod_decode_107 (And.intro pa_Mod_decode_108 (And.intro pa_Mod_decode_109 (And.intro pa_Mod_decode_110 (And.intro pa_Mod_decode_111 (And.intro pa_Mod_decode_112 (And.intro pa_Mod_decode_113 (And.intro pa_Mod_decode_114 (And.intro pa_Mod_decode_115 (And.intro pa_Mod_decode_116 (And.intro pa_Mod_decode_117 (And.intro pa_Mod_decode_118 (And.intro pa_Mod_decode_119 (And.intro pa_Mod_decode_120 (And.intro pa_Mod_decode_121 (And.intro pa_Mod_decode_122 (And.intro pa_Mod_decode_123 (And.intro pa_Mod_decode_124 (And.intro pa_Mod_decode_125 (And.intro pa_Mod_decode_126 (And.intro pa_Mod_decode_127 (And.intro pa_Mod_decode_128 (And.intro pa_Mod_decode_129 (And.intro pa_Mod_decode_130 (And.intro pa_Mod_decode_131 (And.intro pa_Mod_decode_132 (And.intro pa_Mod_decode_133 (And.intro pa_Mod_decode_134 (And.intro pa_Mod_decode_135 (And.intro pa_Mod_decode_136 (And.intro pa_Mod_decode_137 (And.intro pa_Mod_decode_138 (And.intro pa_Mod_decode_139 (And.intro pa_Mod_decode_140 (And.intro pa_Mod_decode_141 (And.intro pa_Mod_decode_142 (And.intro pa_Mod_decode_143 (And.intro pa_Mod_decode_144 (And.intro pa_Mod_decode_145 (And.intro pa_Mod_decode_146 (And.intro pa_Mod_decode_147 (And.intro pa_Mod_decode_148 (And.intro pa_Mod_decode_149 (And.intro pa_Mod_decode_150 (And.intro pa_Mod_decode_151 (And.intro pa_Mod_decode_152 (And.intro pa_Mod_decode_153 (And.intro pa_Mod_decode_154 (And.intro pa_Mod_decode_155 (And.intro pa_Mod_decode_156 (And.intro pa_Mod_decode_157 (And.intro pa_Mod_decode_158 (And.intro pa_Mod_decode_159 (And.intro pa_Mod_decode_160 (And.intro pa_Mod_decode_161 (And.intro pa_Mod_decode_162 (And.intro pa_Mod_decode_163 (And.intro pa_Mod_decode_164 (And.intro pa_Mod_decode_165 (And.intro pa_Mod_decode_166 (And.intro pa_Mod_decode_167 (And.intro pa_Mod_decode_168 (And.intro pa_Mod_decode_169 (And.intro pa_Mod_decode_170 (And.intro pa_Mod_decode_171 (And.intro pa_Mod_decode_172 (And.intro pa_Mod_decode_173 (And.intro pa_Mod_decode_174 (And.intro pa_Mod_decode_175 (And.intro pa_Mod_decode_176 (And.intro pa_Mod_decode_177 (And.intro pa_Mod_decode_178 (And.intro pa_Mod_decode_179 (And.intro pa_Mod_decode_180 (And.intro pa_Mod_decode_181 (And.intro pa_Mod_decode_182 (And.intro pa_Mod_decode_183 (And.intro pa_Mod_decode_184 (And.intro pa_Mod_decode_185 (And.intro pa_Mod_decode_186 (And.intro pa_Mod_decode_187 (And.intro pa_Mod_decode_188 (And.intro pa_Mod_decode_189 (And.intro pa_Mod_decode_190 (And.intro pa_Mod_decode_191 (pa_Mod_decode_192))))))))))))))))))))))))))))))))))))))))))))))))))))))))))))))))))))))))))))))))))))))))))))))))))))))))))))))))))))))))))))))))))))))))))))))))))))))))))))))))))))))))))))))))))))))))))))))))
def pr_Dec_finishBlock : List ma_E := [(0, 1, .aload_n 0, []),
  (1, 1, .iload_n 1, []),
  (2, 3, .invokevirtual 79, [14, 1, 5, 0, 500, 502, 24, 45]),
  (5, 1, .aload_n 0, []),
  (6, 1, .iconst 0, [0, 0]),
  (7, 3, .putfield 25, [5, 4, 0, 0, 186]),
  (10, 1, .iconst 0, [0, 0]),
  (11, 1, .istore_n 2, []),
  (12, 1, .iload_n 2, []),
  (13, 1, .iconst 4, [4, 0]),
  (14, 3, .if_icmp .ge (25), [23]),
  (17, 1, .aload_n 0, []),
  (18, 1, .iload_n 1, []),
  (19, 1, .iload_n 2, []),
  (20, 3, .invokevirtual 83, [99, 2, 5, 0, 504, 506, 25, 45]),
  (23, 3, .ifCond .ne (10), [21]),
  (26, 1, .aload_n 0, []),
  (27, 1, .iload_n 1, []),
  (28, 3, .invokevirtual 87, [13, 1, 5, 0, 510, 512, 26, 45]),
  (31, 1, .iconst 0, [0, 0]),
  (32, 1, .ireturn, [1]),
  (33, 3, .iinc 2 (1), [1, 0]),
  (36, 3, .goto (-24), [8]),
  (39, 1, .aload_n 0, []),
  (40, 3, .getfield 44, [5, 10, 2, 0, 197]),
  (43, 1, .iload_n 1, []),
  (44, 1, .aload_n 0, []),
  (45, 3, .getfield 25, [5, 4, 0, 0, 186]),
  (48, 3, .invokestatic 90, [37, 1, 0, 514, 515, 51]),
  (51, 1, .iastore, []),
  (52, 1, .iconst 1, [1, 0]),
  (53, 1, .ireturn, [1])]
theorem po_Dec_finishBlock : ma_ok me_Dec_finishBlock pr_Dec_finishBlock := ma_ok_of (by decide +kernel)
theorem pa_Dec_finishBlock_0 : pr_Dec_finishBlock[0]? = some (0, 1, .aload_n 0, []) := rfl
theorem pa_Dec_finishBlock_1 : pr_Dec_finishBlock[1]? = some (1, 1, .iload_n 1, []) := rfl
theorem pa_Dec_finishBlock_2 : pr_Dec_finishBlock[2]? = some (2, 3, .invokevirtual 79, [14, 1, 5, 0, 500, 502, 24, 45]) := rfl
theorem pa_Dec_finishBlock_3 : pr_Dec_finishBlock[3]? = some (5, 1, .aload_n 0, []) := rfl
theorem pa_Dec_finishBlock_4 : pr_Dec_finishBlock[4]? = some (6, 1, .iconst 0, [0, 0]) := rfl
theorem pa_Dec_finishBlock_5 : pr_Dec_finishBlock[5]? = some (7, 3, .putfield 25, [5, 4, 0, 0, 186]) := rfl
theorem pa_Dec_finishBlock_6 : pr_Dec_finishBlock[6]? = some (10, 1, .iconst 0, [0, 0]) := rfl
theorem pa_Dec_finishBlock_7 : pr_Dec_finishBlock[7]? = some (11, 1, .istore_n 2, []) := rfl
theorem pa_Dec_finishBlock_8 : pr_Dec_finishBlock[8]? = some (12, 1, .iload_n 2, []) := rfl
theorem pa_Dec_finishBlock_9 : pr_Dec_finishBlock[9]? = some (13, 1, .iconst 4, [4, 0]) := rfl
theorem pa_Dec_finishBlock_10 : pr_Dec_finishBlock[10]? = some (14, 3, .if_icmp .ge (25), [23]) := rfl
theorem pa_Dec_finishBlock_11 : pr_Dec_finishBlock[11]? = some (17, 1, .aload_n 0, []) := rfl
theorem pa_Dec_finishBlock_12 : pr_Dec_finishBlock[12]? = some (18, 1, .iload_n 1, []) := rfl
theorem pa_Dec_finishBlock_13 : pr_Dec_finishBlock[13]? = some (19, 1, .iload_n 2, []) := rfl
theorem pa_Dec_finishBlock_14 : pr_Dec_finishBlock[14]? = some (20, 3, .invokevirtual 83, [99, 2, 5, 0, 504, 506, 25, 45]) := rfl
theorem pa_Dec_finishBlock_15 : pr_Dec_finishBlock[15]? = some (23, 3, .ifCond .ne (10), [21]) := rfl
theorem pa_Dec_finishBlock_16 : pr_Dec_finishBlock[16]? = some (26, 1, .aload_n 0, []) := rfl
theorem pa_Dec_finishBlock_17 : pr_Dec_finishBlock[17]? = some (27, 1, .iload_n 1, []) := rfl
theorem pa_Dec_finishBlock_18 : pr_Dec_finishBlock[18]? = some (28, 3, .invokevirtual 87, [13, 1, 5, 0, 510, 512, 26, 45]) := rfl
theorem pa_Dec_finishBlock_19 : pr_Dec_finishBlock[19]? = some (31, 1, .iconst 0, [0, 0]) := rfl
theorem pa_Dec_finishBlock_20 : pr_Dec_finishBlock[20]? = some (32, 1, .ireturn, [1]) := rfl
theorem pa_Dec_finishBlock_21 : pr_Dec_finishBlock[21]? = some (33, 3, .iinc 2 (1), [1, 0]) := rfl
theorem pa_Dec_finishBlock_22 : pr_Dec_finishBlock[22]? = some (36, 3, .goto (-24), [8]) := rfl
theorem pa_Dec_finishBlock_23 : pr_Dec_finishBlock[23]? = some (39, 1, .aload_n 0, []) := rfl
theorem pa_Dec_finishBlock_24 : pr_Dec_finishBlock[24]? = some (40, 3, .getfield 44, [5, 10, 2, 0, 197]) := rfl
theorem pa_Dec_finishBlock_25 : pr_Dec_finishBlock[25]? = some (43, 1, .iload_n 1, []) := rfl
theorem pa_Dec_finishBlock_26 : pr_Dec_finishBlock[26]? = some (44, 1, .aload_n 0, []) := rfl
theorem pa_Dec_finishBlock_27 : pr_Dec_finishBlock[27]? = some (45, 3, .getfield 25, [5, 4, 0, 0, 186]) := rfl
theorem pa_Dec_finishBlock_28 : pr_Dec_finishBlock[28]? = some (48, 3, .invokestatic 90, [37, 1, 0, 514, 515, 51]) := rfl
theorem pa_Dec_finishBlock_29 : pr_Dec_finishBlock[29]? = some (51, 1, .iastore, []) := rfl
theorem pa_Dec_finishBlock_30 : pr_Dec_finishBlock[30]? = some (52, 1, .iconst 1, [1, 0]) := rfl
theorem pa_Dec_finishBlock_31 : pr_Dec_finishBlock[31]? = some (53, 1, .ireturn, [1]) := rfl
def pa_Dec_finishBlock := And.intro pa_Dec_finishBlock_0 (And.intro pa_Dec_finishBlock_1 (And.intro pa_Dec_finishBlock_2 (And.intro pa_Dec_finishBlock_3 (And.intro pa_Dec_finishBlock_4 (And.intro pa_Dec_finishBlock_5 (And.intro pa_Dec_finishBlock_6 (And.intro pa_Dec_finishBlock_7 (And.intro pa_Dec_finishBlock_8 (And.intro pa_Dec_finishBlock_9 (And.intro pa_Dec_finishBlock_10 (And.intro pa_Dec_finishBlock_11 (And.intro pa_Dec_finishBlock_12 (And.intro pa_Dec_finishBlock_13 (And.intro pa_Dec_finishBlock_14 (And.intro pa_Dec_finishBlock_15 (And.intro pa_Dec_finishBlock_16 (And.intro pa_Dec_finishBlock_17 (And.intro pa_Dec_finishBlock_18 (And.intro pa_Dec_finishBlock_19 (And.intro pa_Dec_finishBlock_20 (And.intro pa_Dec_finishBlock_21 (And.intro pa_Dec_finishBlock_22 (And.intro pa_Dec_finishBlock_23 (And.intro pa_Dec_finishBlock_24 (And.intro pa_Dec_finishBlock_25 (And.intro pa_Dec_finishBlock_26 (And.intro pa_Dec_finishBlock_27 (And.intro pa_Dec_finishBlock_28 (And.intro pa_Dec_finishBlock_29 (And.intro pa_Dec_finishBlock_30 (pa_Dec_finishBlock_31)))))))))))))))))))))))))))))))
def pr_Arc_write : List ma_E := [(0, 1, .iload_n 1, []),
  (1, 3, .invokestatic 66, [20, 1, 0, 261, 262, 40]),
  (4, 3, .ifCond .ne (5), [5]),
  (7, 1, .iconst 0, [0, 0]),
  (8, 1, .ireturn, [0]),
  (9, 1, .iload_n 1, []),
  (10, 3, .invokestatic 70, [15, 1, 0, 264, 265, 40]),
  (13, 1, .istore_n 2, []),
  (14, 1, .iconst 0, [0, 0]),
  (15, 1, .istore_n 3, []),
  (16, 1, .iload_n 3, []),
  (17, 1, .iload_n 2, []),
  (18, 3, .if_icmp .ge (38), [30]),
  (21, 1, .aload_n 0, []),
  (22, 1, .iload_n 3, []),
  (23, 1, .iload_n 1, []),
  (24, 3, .invokevirtual 74, [102, 2, 6, 0, 267, 269, 0, 40]),
  (27, 1, .iconst 0, [0, 0]),
  (28, 2, .istore 4, []),
  (30, 2, .iload 4, []),
  (32, 2, .bipush 16, [16, 0]),
  (34, 3, .if_icmp .ge (16), [28]),
  (37, 1, .aload_n 0, []),
  (38, 1, .iload_n 3, []),
  (39, 2, .iload 4, []),
  (41, 3, .invokevirtual 78, [97, 2, 6, 0, 341, 343, 12, 40]),
  (44, 3, .iinc 4 (1), [1, 0]),
  (47, 3, .goto (-17), [19]),
  (50, 3, .iinc 3 (1), [1, 0]),
  (53, 3, .goto (-37), [10]),
  (56, 1, .aload_n 0, []),
  (57, 1, .iload_n 2, []),
  (58, 2, .bipush 16, [16, 0]),
  (60, 1, .imul, []),
  (61, 3, .putfield 21, [6, 2, 0, 0, 224]),
  (64, 1, .aload_n 0, []),
  (65, 1, .iconst 0, [0, 0]),
  (66, 3, .putfield 28, [6, 4, 0, 0, 226]),
  (69, 1, .aload_n 0, []),
  (70, 3, .getfield 21, [6, 2, 0, 0, 224]),
  (73, 1, .ireturn, [0])]
theorem po_Arc_write : ma_ok me_Arc_write pr_Arc_write := ma_ok_of (by decide +kernel)
theorem pa_Arc_write_0 : pr_Arc_write[0]? = some (0, 1, .iload_n 1, []) := rfl
theorem pa_Arc_write_1 : pr_Arc_write[1]? = some (1, 3, .invokestatic 66, [20, 1, 0, 261, 262, 40]) := rfl
theorem pa_Arc_write_2 : pr_Arc_write[2]? = some (4, 3, .ifCond .ne (5), [5]) := rfl
theorem pa_Arc_write_3 : pr_Arc_write[3]? = some (7, 1, .iconst 0, [0, 0]) := rfl
theorem pa_Arc_write_4 : pr_Arc_write[4]? = some (8, 1, .ireturn, [0]) := rfl
theorem pa_Arc_write_5 : pr_Arc_write[5]? = some (9, 1, .iload_n 1, []) := rfl
theorem pa_Arc_write_6 : pr_Arc_write[6]? = some (10, 3, .invokestatic 70, [15, 1, 0, 264, 265, 40]) := rfl
theorem pa_Arc_write_7 : pr_Arc_write[7]? = some (13, 1, .istore_n 2, []) := rfl
theorem pa_Arc_write_8 : pr_Arc_write[8]? = some (14, 1, .iconst 0, [0, 0]) := rfl
theorem pa_Arc_write_9 : pr_Arc_write[9]? = some (15, 1, .istore_n 3, []) := rfl
theorem pa_Arc_write_10 : pr_Arc_write[10]? = some (16, 1, .iload_n 3, []) := rfl
theorem pa_Arc_write_11 : pr_Arc_write[11]? = some (17, 1, .iload_n 2, []) := rfl
theorem pa_Arc_write_12 : pr_Arc_write[12]? = some (18, 3, .if_icmp .ge (38), [30]) := rfl
theorem pa_Arc_write_13 : pr_Arc_write[13]? = some (21, 1, .aload_n 0, []) := rfl
theorem pa_Arc_write_14 : pr_Arc_write[14]? = some (22, 1, .iload_n 3, []) := rfl
theorem pa_Arc_write_15 : pr_Arc_write[15]? = some (23, 1, .iload_n 1, []) := rfl
theorem pa_Arc_write_16 : pr_Arc_write[16]? = some (24, 3, .invokevirtual 74, [102, 2, 6, 0, 267, 269, 0, 40]) := rfl
theorem pa_Arc_write_17 : pr_Arc_write[17]? = some (27, 1, .iconst 0, [0, 0]) := rfl
theorem pa_Arc_write_18 : pr_Arc_write[18]? = some (28, 2, .istore 4, []) := rfl
theorem pa_Arc_write_19 : pr_Arc_write[19]? = some (30, 2, .iload 4, []) := rfl
theorem pa_Arc_write_20 : pr_Arc_write[20]? = some (32, 2, .bipush 16, [16, 0]) := rfl
theorem pa_Arc_write_21 : pr_Arc_write[21]? = some (34, 3, .if_icmp .ge (16), [28]) := rfl
theorem pa_Arc_write_22 : pr_Arc_write[22]? = some (37, 1, .aload_n 0, []) := rfl
theorem pa_Arc_write_23 : pr_Arc_write[23]? = some (38, 1, .iload_n 3, []) := rfl
theorem pa_Arc_write_24 : pr_Arc_write[24]? = some (39, 2, .iload 4, []) := rfl
theorem pa_Arc_write_25 : pr_Arc_write[25]? = some (41, 3, .invokevirtual 78, [97, 2, 6, 0, 341, 343, 12, 40]) := rfl
theorem pa_Arc_write_26 : pr_Arc_write[26]? = some (44, 3, .iinc 4 (1), [1, 0]) := rfl
theorem pa_Arc_write_27 : pr_Arc_write[27]? = some (47, 3, .goto (-17), [19]) := rfl
theorem pa_Arc_write_28 : pr_Arc_write[28]? = some (50, 3, .iinc 3 (1), [1, 0]) := rfl
theorem pa_Arc_write_29 : pr_Arc_write[29]? = some (53, 3, .goto (-37), [10]) := rfl
theorem pa_Arc_write_30 : pr_Arc_write[30]? = some (56, 1, .aload_n 0, []) := rfl
theorem pa_Arc_write_31 : pr_Arc_write[31]? = some (57, 1, .iload_n 2, []) := rfl
theorem pa_Arc_write_32 : pr_Arc_write[32]? = some (58, 2, .bipush 16, [16, 0]) := rfl
theorem pa_Arc_write_33 : pr_Arc_write[33]? = some (60, 1, .imul, []) := rfl
theorem pa_Arc_write_34 : pr_Arc_write[34]? = some (61, 3, .putfield 21, [6, 2, 0, 0, 224]) := rfl
theorem pa_Arc_write_35 : pr_Arc_write[35]? = some (64, 1, .aload_n 0, []) := rfl
theorem pa_Arc_write_36 : pr_Arc_write[36]? = some (65, 1, .iconst 0, [0, 0]) := rfl
theorem pa_Arc_write_37 : pr_Arc_write[37]? = some (66, 3, .putfield 28, [6, 4, 0, 0, 226]) := rfl
theorem pa_Arc_write_38 : pr_Arc_write[38]? = some (69, 1, .aload_n 0, []) := rfl
theorem pa_Arc_write_39 : pr_Arc_write[39]? = some (70, 3, .getfield 21, [6, 2, 0, 0, 224]) := rfl
theorem pa_Arc_write_40 : pr_Arc_write[40]? = some (73, 1, .ireturn, [0]) := rfl
def pa_Arc_write := And.intro pa_Arc_write_0 (And.intro pa_Arc_write_1 (And.intro pa_Arc_write_2 (And.intro pa_Arc_write_3 (And.intro pa_Arc_write_4 (And.intro pa_Arc_write_5 (And.intro pa_Arc_write_6 (And.intro pa_Arc_write_7 (And.intro pa_Arc_write_8 (And.intro pa_Arc_write_9 (And.intro pa_Arc_write_10 (And.intro pa_Arc_write_11 (And.intro pa_Arc_write_12 (And.intro pa_Arc_write_13 (And.intro pa_Arc_write_14 (And.intro pa_Arc_write_15 (And.intro pa_Arc_write_16 (And.intro pa_Arc_write_17 (And.intro pa_Arc_write_18 (And.intro pa_Arc_write_19 (And.intro pa_Arc_write_20 (And.intro pa_Arc_write_21 (And.intro pa_Arc_write_22 (And.intro pa_Arc_write_23 (And.intro pa_Arc_write_24 (And.intro pa_Arc_write_25 (And.intro pa_Arc_write_26 (And.intro pa_Arc_write_27 (And.intro pa_Arc_write_28 (And.intro pa_Arc_write_29 (And.intro pa_Arc_write_30 (And.intro pa_Arc_write_31 (And.intro pa_Arc_write_32 (And.intro pa_Arc_write_33 (And.intro pa_Arc_write_34 (And.intro pa_Arc_write_35 (And.intro pa_Arc_write_36 (And.intro pa_Arc_write_37 (And.intro pa_Arc_write_38 (And.intro pa_Arc_write_39 (pa_Arc_write_40))))))))))))))))))))))))))))))))))))))))
def pr_Arc_decode : List ma_E := [(0, 1, .iload_n 1, []),
  (1, 3, .invokestatic 66, [20, 1, 0, 261, 262, 40]),
  (4, 3, .ifCond .ne (5), [5]),
  (7, 1, .iconst (-1), [1, 1]),
  (8, 1, .ireturn, [0]),
  (9, 1, .aload_n 0, []),
  (10, 3, .getfield 62, [6, 9, 2, 0, 231]),
  (13, 1, .iload_n 1, []),
  (14, 3, .invokevirtual 122, [55, 1, 5, 0, 443, 444, 445, 45]),
  (17, 1, .iconst 0, [0, 0]),
  (18, 1, .istore_n 2, []),
  (19, 1, .iload_n 2, []),
  (20, 1, .aload_n 0, []),
  (21, 3, .getfield 28, [6, 4, 0, 0, 226]),
  (24, 3, .if_icmp .ge (22), [24]),
  (27, 1, .aload_n 0, []),
  (28, 3, .getfield 62, [6, 9, 2, 0, 231]),
  (31, 1, .aload_n 0, []),
  (32, 3, .getfield 25, [6, 3, 2, 0, 225]),
  (35, 1, .iload_n 2, []),
  (36, 1, .aaload, []),
  (37, 3, .invokevirtual 125, [100, 1, 5, 0, 448, 449, 450, 45]),
  (40, 3, .iinc 2 (1), [1, 0]),
  (43, 3, .goto (-24), [11]),
  (46, 1, .iconst 1, [1, 0]),
  (47, 1, .istore_n 2, []),
  (48, 1, .iconst 0, [0, 0]),
  (49, 1, .istore_n 3, []),
  (50, 1, .iload_n 3, []),
  (51, 1, .iload_n 1, []),
  (52, 3, .invokestatic 70, [15, 1, 0, 264, 265, 40]),
  (55, 3, .if_icmp .ge (30), [45]),
  (58, 1, .aload_n 0, []),
  (59, 3, .getfield 62, [6, 9, 2, 0, 231]),
  (62, 1, .iload_n 3, []),
  (63, 3, .invokevirtual 129, [104, 1, 5, 0, 496, 497, 498, 45]),
  (66, 3, .ifCond .eq (11), [41]),
  (69, 1, .iload_n 2, []),
  (70, 3, .ifCond .eq (7), [41]),
  (73, 1, .iconst 1, [1, 0]),
  (74, 3, .goto (4), [42]),
  (77, 1, .iconst 0, [0, 0]),
  (78, 1, .istore_n 2, []),
  (79, 3, .iinc 3 (1), [1, 0]),
  (82, 3, .goto (-32), [28]),
  (85, 1, .iload_n 2, []),
  (86, 3, .ifCond .eq (7), [49]),
  (89, 1, .iconst 1, [1, 0]),
  (90, 3, .goto (4), [50]),
  (93, 1, .iconst 0, [0, 0]),
  (94, 1, .ireturn, [0])]
theorem po_Arc_decode : ma_ok me_Arc_decode pr_Arc_decode := ma_ok_of (by decide +kernel)
theorem pa_Arc_decode_0 : pr_Arc_decode[0]? = some (0, 1, .iload_n 1, []) := rfl
theorem pa_Arc_decode_1 : pr_Arc_decode[1]? = some (1, 3, .invokestatic 66, [20, 1, 0, 261, 262, 40]) := rfl
theorem pa_Arc_decode_2 : pr_Arc_decode[2]? = some (4, 3, .ifCond .ne (5), [5]) := rfl
theorem pa_Arc_decode_3 : pr_Arc_decode[3]? = some (7, 1, .iconst (-1), [1, 1]) := rfl
theorem pa_Arc_decode_4 : pr_Arc_decode[4]? = some (8, 1, .ireturn, [0]) := rfl
theorem pa_Arc_decode_5 : pr_Arc_decode[5]? = some (9, 1, .aload_n 0, []) := rfl
theorem pa_Arc_decode_6 : pr_Arc_decode[6]? = some (10, 3, .getfield 62, [6, 9, 2, 0, 231]) := rfl
theorem pa_Arc_decode_7 : pr_Arc_decode[7]? = some (13, 1, .iload_n 1, []) := rfl
theorem pa_Arc_decode_8 : pr_Arc_decode[8]? = some (14, 3, .invokevirtual 122, [55, 1, 5, 0, 443, 444, 445, 45]) := rfl
theorem pa_Arc_decode_9 : pr_Arc_decode[9]? = some (17, 1, .iconst 0, [0, 0]) := rfl
theorem pa_Arc_decode_10 : pr_Arc_decode[10]? = some (18, 1, .istore_n 2, []) := rfl
theorem pa_Arc_decode_11 : pr_Arc_decode[11]? = some (19, 1, .iload_n 2, []) := rfl
theorem pa_Arc_decode_12 : pr_Arc_decode[12]? = some (20, 1, .aload_n 0, []) := rfl
theorem pa_Arc_decode_13 : pr_Arc_decode[13]? = some (21, 3, .getfield 28, [6, 4, 0, 0, 226]) := rfl
theorem pa_Arc_decode_14 : pr_Arc_decode[14]? = some (24, 3, .if_icmp .ge (22), [24]) := rfl
theorem pa_Arc_decode_15 : pr_Arc_decode[15]? = some (27, 1, .aload_n 0, []) := rfl
theorem pa_Arc_decode_16 : pr_Arc_decode[16]? = some (28, 3, .getfield 62, [6, 9, 2, 0, 231]) := rfl
theorem pa_Arc_decode_17 : pr_Arc_decode[17]? = some (31, 1, .aload_n 0, []) := rfl
theorem pa_Arc_decode_18 : pr_Arc_decode[18]? = some (32, 3, .getfield 25, [6, 3, 2, 0, 225]) := rfl
theorem pa_Arc_decode_19 : pr_Arc_decode[19]? = some (35, 1, .iload_n 2, []) := rfl
theorem pa_Arc_decode_20 : pr_Arc_decode[20]? = some (36, 1, .aaload, []) := rfl
theorem pa_Arc_decode_21 : pr_Arc_decode[21]? = some (37, 3, .invokevirtual 125, [100, 1, 5, 0, 448, 449, 450, 45]) := rfl
theorem pa_Arc_decode_22 : pr_Arc_decode[22]? = some (40, 3, .iinc 2 (1), [1, 0]) := rfl
theorem pa_Arc_decode_23 : pr_Arc_decode[23]? = some (43, 3, .goto (-24), [11]) := rfl
theorem pa_Arc_decode_24 : pr_Arc_decode[24]? = some (46, 1, .iconst 1, [1, 0]) := rfl
theorem pa_Arc_decode_25 : pr_Arc_decode[25]? = some (47, 1, .istore_n 2, []) := rfl
theorem pa_Arc_decode_26 : pr_Arc_decode[26]? = some (48, 1, .iconst 0, [0, 0]) := rfl
theorem pa_Arc_decode_27 : pr_Arc_decode[27]? = some (49, 1, .istore_n 3, []) := rfl
theorem pa_Arc_decode_28 : pr_Arc_decode[28]? = some (50, 1, .iload_n 3, []) := rfl
theorem pa_Arc_decode_29 : pr_Arc_decode[29]? = some (51, 1, .iload_n 1, []) := rfl
theorem pa_Arc_decode_30 : pr_Arc_decode[30]? = some (52, 3, .invokestatic 70, [15, 1, 0, 264, 265, 40]) := rfl
theorem pa_Arc_decode_31 : pr_Arc_decode[31]? = some (55, 3, .if_icmp .ge (30), [45]) := rfl
theorem pa_Arc_decode_32 : pr_Arc_decode[32]? = some (58, 1, .aload_n 0, []) := rfl
theorem pa_Arc_decode_33 : pr_Arc_decode[33]? = some (59, 3, .getfield 62, [6, 9, 2, 0, 231]) := rfl
theorem pa_Arc_decode_34 : pr_Arc_decode[34]? = some (62, 1, .iload_n 3, []) := rfl
theorem pa_Arc_decode_35 : pr_Arc_decode[35]? = some (63, 3, .invokevirtual 129, [104, 1, 5, 0, 496, 497, 498, 45]) := rfl
theorem pa_Arc_decode_36 : pr_Arc_decode[36]? = some (66, 3, .ifCond .eq (11), [41]) := rfl
theorem pa_Arc_decode_37 : pr_Arc_decode[37]? = some (69, 1, .iload_n 2, []) := rfl
theorem pa_Arc_decode_38 : pr_Arc_decode[38]? = some (70, 3, .ifCond .eq (7), [41]) := rfl
theorem pa_Arc_decode_39 : pr_Arc_decode[39]? = some (73, 1, .iconst 1, [1, 0]) := rfl
theorem pa_Arc_decode_40 : pr_Arc_decode[40]? = some (74, 3, .goto (4), [42]) := rfl
theorem pa_Arc_decode_41 : pr_Arc_decode[41]? = some (77, 1, .iconst 0, [0, 0]) := rfl
theorem pa_Arc_decode_42 : pr_Arc_decode[42]? = some (78, 1, .istore_n 2, []) := rfl
theorem pa_Arc_decode_43 : pr_Arc_decode[43]? = some (79, 3, .iinc 3 (1), [1, 0]) := rfl
theorem pa_Arc_decode_44 : pr_Arc_decode[44]? = some (82, 3, .goto (-32), [28]) := rfl
theorem pa_Arc_decode_45 : pr_Arc_decode[45]? = some (85, 1, .iload_n 2, []) := rfl
theorem pa_Arc_decode_46 : pr_Arc_decode[46]? = some (86, 3, .ifCond .eq (7), [49]) := rfl
theorem pa_Arc_decode_47 : pr_Arc_decode[47]? = some (89, 1, .iconst 1, [1, 0]) := rfl
theorem pa_Arc_decode_48 : pr_Arc_decode[48]? = some (90, 3, .goto (4), [50]) := rfl
theorem pa_Arc_decode_49 : pr_Arc_decode[49]? = some (93, 1, .iconst 0, [0, 0]) := rfl
theorem pa_Arc_decode_50 : pr_Arc_decode[50]? = some (94, 1, .ireturn, [0]) := rfl
def pa_Arc_decode := And.intro pa_Arc_decode_0 (And.intro pa_Arc_decode_1 (And.intro pa_Arc_decode_2 (And.intro pa_Arc_decode_3 (And.intro pa_Arc_decode_4 (And.intro pa_Arc_decode_5 (And.intro pa_Arc_decode_6 (And.intro pa_Arc_decode_7 (And.intro pa_Arc_decode_8 (And.intro pa_Arc_decode_9 (And.intro pa_Arc_decode_10 (And.intro pa_Arc_decode_11 (And.intro pa_Arc_decode_12 (And.intro pa_Arc_decode_13 (And.intro pa_Arc_decode_14 (And.intro pa_Arc_decode_15 (And.intro pa_Arc_decode_16 (And.intro pa_Arc_decode_17 (And.intro pa_Arc_decode_18 (And.intro pa_Arc_decode_19 (And.intro pa_Arc_decode_20 (And.intro pa_Arc_decode_21 (And.intro pa_Arc_decode_22 (And.intro pa_Arc_decode_23 (And.intro pa_Arc_decode_24 (And.intro pa_Arc_decode_25 (And.intro pa_Arc_decode_26 (And.intro pa_Arc_decode_27 (And.intro pa_Arc_decode_28 (And.intro pa_Arc_decode_29 (And.intro pa_Arc_decode_30 (And.intro pa_Arc_decode_31 (And.intro pa_Arc_decode_32 (And.intro pa_Arc_decode_33 (And.intro pa_Arc_decode_34 (And.intro pa_Arc_decode_35 (And.intro pa_Arc_decode_36 (And.intro pa_Arc_decode_37 (And.intro pa_Arc_decode_38 (And.intro pa_Arc_decode_39 (And.intro pa_Arc_decode_40 (And.intro pa_Arc_decode_41 (And.intro pa_Arc_decode_42 (And.intro pa_Arc_decode_43 (And.intro pa_Arc_decode_44 (And.intro pa_Arc_decode_45 (And.intro pa_Arc_decode_46 (And.intro pa_Arc_decode_47 (And.intro pa_Arc_decode_48 (And.intro pa_Arc_decode_49 (pa_Arc_decode_50))))))))))))))))))))))))))))))))))))))))))))))))))
